/** Boundary cases of 'Terms' 3, ACTS, and of Promises 13 to 17. */
final class ActEdges {
    private ActEdges() {
    }

    private static MergeBelts one() {
        MergeBelts x = Check.of("belt 6;exit 2 1;ware 0;side 0 2 1 1;comes 0 0 1 0;");
        x.ticks(2);
        x.push(0, 0);
        return x;
    }

    @Says(in = "Promise 13", value = "An ACT: so many TICKS (1 to 500): how many were TAKEN in these.")
    static void oneTick(Check c) {
        MergeBelts x = one();
        c.due("ticks(1)", x.ticks(1), 1);
        c.due("TICK", x.count(5), 3);
        c.due("ACTS", x.count(13), 3);
    }

    @Says(in = "Promise 13", value = "An ACT: so many TICKS (1 to 500): how many were TAKEN in these.")
    static void fiveHundredTicks(Check c) {
        MergeBelts x = one();
        c.due("ticks(500)", x.ticks(500), 500);
        c.due("TICK", x.count(5), 502);
        c.due("one ACT", x.count(13), 3);
        c.due("UNDONE at once", x.undo(), 2);
        c.due("TICK", x.count(5), 2);
    }

    @Says(in = "Promise 13", value = "An ACT: so many TICKS (1 to 500): how many were TAKEN in these.")
    static void noneOfThoseThatWereTakenAhead(Check c) {
        MergeBelts x = Check.of("belt 4;exit 1 1;ware 0;side 0 2 0 1;");
        x.push(0, 0);
        c.due("the only one", x.ticks(2), 1);
        c.due("none more", x.ticks(500), 0);
    }

    @Says(in = "Promise 13", value = "IllegalArgumentException: n.")
    static void ticksThatAreRefused(Check c) {
        c.changesNothing(ActEdges::one, x -> {
            c.illegal("ticks(0)", () -> x.ticks(0));
            c.illegal("ticks(-1)", () -> x.ticks(-1));
            c.illegal("ticks(501)", () -> x.ticks(501));
            c.illegal("ticks(MIN)", () -> x.ticks(Integer.MIN_VALUE));
            c.illegal("ticks(MAX)", () -> x.ticks(Integer.MAX_VALUE));
        });
    }

    @Says(in = "Promise 14", value = "how many wait then")
    static void theFirstAndTheLastForWhichThereIsRoom(Check c) {
        MergeBelts x = Check.of("belt 4;exit 1 1;ware 0;side 0 20 0 1;");
        for (int k = 1; k <= 20; k++) {
            c.due("push", x.push(0, 0), k);
        }
        c.due("the 21st", x.push(0, 0), -1);
    }

    @Says(in = "Promise 14", value = "NONE (nothing changes): no such SIDE, WARE, ROOM ITEMS wait there.")
    static void pushesThatAreRefused(Check c) {
        c.changesNothing(() -> {
            MergeBelts x = one();
            x.push(0, 0);
            return x;
        }, x -> {
            c.due("ROOM ITEMS wait", x.push(0, 0), -1);
            c.due("SIDE 1", x.push(1, 0), -1);
            c.due("SIDE -1", x.push(-1, 0), -1);
            c.due("SIDE MAX", x.push(Integer.MAX_VALUE, 0), -1);
            c.due("SIDE MIN", x.push(Integer.MIN_VALUE, 0), -1);
        });
    }

    @Says(in = "Promise 14", value = "NONE (nothing changes): no such SIDE, WARE, ROOM ITEMS wait there.")
    static void pushesOfNoWare(Check c) {
        c.changesNothing(ActEdges::one, x -> {
            c.due("WARE 1", x.push(0, 1), -1);
            c.due("WARE -1", x.push(0, -1), -1);
            c.due("WARE MAX", x.push(0, Integer.MAX_VALUE), -1);
            c.due("WARE MIN", x.push(0, Integer.MIN_VALUE), -1);
        });
    }

    @Says(in = "Promise 14", value = "NONE (nothing changes): no such SIDE, WARE, ROOM ITEMS wait there.")
    static void moreThanRoomWait(Check c) {
        MergeBelts x = Check.of("belt 4;exit 1 1;ware 0;side 0 3 0 1;");
        Check.push(x, 3, 0, 0);
        x.change(0, 0, 1);
        c.due("three of 1", x.push(0, 0), -1);
        x.ticks(2);
        c.due("one of 1", x.push(0, 0), -1);
        x.ticks(1);
        c.due("none of 1", x.push(0, 0), 1);
    }

    @Says(in = "Promise 15", value = "SHUT for the next so many TICKS (0 to 999; 0: it isn't): for how many it was.")
    static void shutFor0And1And999(Check c) {
        MergeBelts x = one();
        c.due("it wasn't", x.shut(0, 999), 0);
        c.due("the longest", x.shut(0, 1), 999);
        c.due("one TICK", x.shut(0, 0), 1);
        c.due("opened", x.exit(0, 2), 0);
        c.due("0 behind 0", x.shut(0, 0), 0);
        c.due("each is an ACT", x.count(13), 6);
    }

    @Says(in = "Promise 15", value = "SHUT for the next so many TICKS (0 to 999; 0: it isn't): for how many it was.")
    static void shutToTheLastTick(Check c) {
        MergeBelts x = one();
        x.shut(0, 3);
        c.due("SHUT in TICKS 2, 3, 4", x.ticks(3), 0);
        c.due("open in TICK 5", x.ticks(1), 1);
    }

    @Says(in = "Promise 15", value = "NoSuchElementException: no such EXIT. IllegalArgumentException (behind that): n.")
    static void shutsThatAreRefused(Check c) {
        c.changesNothing(ActEdges::one, x -> {
            c.noSuch("shut(1, 0)", () -> x.shut(1, 0));
            c.noSuch("shut(-1, 0)", () -> x.shut(-1, 0));
            c.illegal("shut(0, -1)", () -> x.shut(0, -1));
            c.illegal("shut(0, 1000)", () -> x.shut(0, 1000));
            c.illegal("shut(0, MIN)", () -> x.shut(0, Integer.MIN_VALUE));
            c.illegal("shut(0, MAX)", () -> x.shut(0, Integer.MAX_VALUE));
        });
    }

    @Says(in = "Promise 15", value = "IllegalArgumentException (behind that): n.")
    static void aShutOfNoExitAndN(Check c) {
        MergeBelts x = one();
        c.noSuch("shut(1, 1000)", () -> x.shut(1, 1000));
        c.noSuch("shut(-1, -1)", () -> x.shut(-1, -1));
    }

    @Says(in = "Promise 16", value = "ROOM (what 0; who waits stays), REACH (1), SHARE (2) of a SIDE becomes v: what it was.")
    static void theLeastAndTheMostRoom(Check c) {
        MergeBelts x = one();
        c.due("from 2 to 20", x.change(0, 0, 20), 2);
        c.due("from 20 to 1", x.change(0, 0, 1), 20);
        c.due("to 1 again", x.change(0, 0, 1), 1);
        c.due("each is an ACT", x.count(13), 5);
        c.illegal("to 0", () -> x.change(0, 0, 0));
        c.illegal("to 21", () -> x.change(0, 0, 21));
        c.due("still", x.side(0, 1), 1);
    }

    @Says(in = "Promise 16", value = "ROOM (what 0; who waits stays), REACH (1), SHARE (2) of a SIDE becomes v: what it was.")
    static void theLeastAndTheMostReach(Check c) {
        MergeBelts x = one();
        c.due("from 1 to 5", x.change(0, 1, 5), 1);
        c.due("from 5 to 0", x.change(0, 1, 0), 5);
        c.illegal("to -1", () -> x.change(0, 1, -1));
        c.illegal("to N", () -> x.change(0, 1, 6));
        c.due("still", x.side(0, 2), 0);
        MergeBelts y = Check.of("belt 40;side 0 1 0 1;");
        c.due("from 0 to 39", y.change(0, 1, 39), 0);
        c.illegal("to 40", () -> y.change(0, 1, 40));
    }

    @Says(in = "Promise 16", value = "ROOM (what 0; who waits stays), REACH (1), SHARE (2) of a SIDE becomes v: what it was.")
    static void theLeastAndTheMostShare(Check c) {
        MergeBelts x = one();
        c.due("from 1 to 9", x.change(0, 2, 9), 1);
        c.due("from 9 to 1", x.change(0, 2, 1), 9);
        c.illegal("to 0", () -> x.change(0, 2, 0));
        c.illegal("to 10", () -> x.change(0, 2, 10));
        c.due("still", x.side(0, 3), 1);
    }

    @Says(in = "Promise 16", value = "(what 0; who waits stays)")
    static void moreWaitThanRoomBecomes(Check c) {
        MergeBelts x = Check.of("belt 4;exit 1 1;ware 0;ware 0;side 0 20 0 1;");
        Check.push(x, 19, 0, 0);
        x.push(0, 1);
        x.change(0, 0, 1);
        c.due("all twenty wait", x.side(0, 4), 20);
        c.due("the last one", x.waiting(0, 19), 1);
        x.ticks(19);
        c.row("19 went, one waits", new int[] {x.side(0, 10), x.side(0, 4), x.side(0, 12)}, 19, 1, 0);
    }

    @Says(in = "Promise 16", value = "NoSuchElementException: no such SIDE, another what. IllegalArgumentException (behind that): v.")
    static void changesThatAreRefused(Check c) {
        c.changesNothing(ActEdges::one, x -> {
            c.noSuch("SIDE 1", () -> x.change(1, 0, 1));
            c.noSuch("SIDE -1", () -> x.change(-1, 0, 1));
            c.noSuch("what 3", () -> x.change(0, 3, 1));
            c.noSuch("what -1", () -> x.change(0, -1, 1));
            for (int what = 0; what < 3; what++) {
                int w = what;
                c.illegal("what " + w + ", MIN", () -> x.change(0, w, Integer.MIN_VALUE));
                c.illegal("what " + w + ", MAX", () -> x.change(0, w, Integer.MAX_VALUE));
                c.illegal("what " + w + ", -1", () -> x.change(0, w, -1));
                c.illegal("what " + w + ", 21", () -> x.change(0, w, 21));
            }
        });
    }

    @Says(in = "Promise 16", value = "IllegalArgumentException (behind that): v.")
    static void aChangeOfNoSideAndV(Check c) {
        MergeBelts x = one();
        c.noSuch("SIDE 1, v 0", () -> x.change(1, 0, 0));
        c.noSuch("what 3, v -1", () -> x.change(0, 3, -1));
        c.noSuch("SIDE -1, what -1, v 99", () -> x.change(-1, -1, 99));
    }

    @Says(in = "Promise 17", value = "NONE: none can.")
    static void nothingToUndo(Check c) {
        c.due("of a new object", new MergeBelts().undo(), -1);
        c.changesNothing(() -> Check.of("belt 6;exit 2 1;ware 0;side 0 2 1 1;comes 0 0 1 0;"), x -> c.due("undo()", x.undo(), -1));
    }

    @Says(in = "Promise 17", value = "The latest ACT is UNDONE: how many still can be; NONE: none can.")
    static void theOnlyAct(Check c) {
        c.changesNothing(() -> Check.of("belt 6;exit 2 1;ware 0;side 0 2 1 1;comes 0 0 1 0;"), x -> {
            x.ticks(7);
            c.due("undo()", x.undo(), 0);
            c.due("undo()", x.undo(), -1);
        });
    }

    @Says(in = "Terms 3", value = "ACTS: TICKS of one call, an ITEM pushed, an EXIT SHUT or opened, ROOM, REACH, SHARE changed")
    static void oneOfEachAct(Check c) {
        c.changesNothing(() -> Check.of("belt 6;exit 2 1;ware 0;side 0 2 1 1;comes 0 0 1 0;"), x -> {
            x.ticks(5);
            x.push(0, 0);
            x.shut(0, 9);
            x.shut(0, 0);
            x.change(0, 0, 9);
            x.change(0, 1, 5);
            x.change(0, 2, 9);
            for (int left = 6; left >= -1; left--) {
                c.due("undo()", x.undo(), left);
            }
        });
    }

    @Says(in = "Promise 17", value = "The latest ACT is UNDONE: how many still can be; NONE: none can.")
    static void allRowsOfTheLogAreAsTheyWere(Check c) {
        c.changesNothing(() -> {
            MergeBelts x = Check.of("belt 4;exit 1 1;ware 0;side 0 1 0 1;comes 0 0 1 0;");
            x.ticks(44);
            return x;
        }, x -> {
            x.ticks(500);
            x.ticks(7);
            x.undo();
            x.undo();
        });
    }

    @Says(in = "Terms 3", value = "the latest 10 can be UNDONE one by one, the latest first")
    static void tenActs(Check c) {
        MergeBelts x = Check.of("belt 4;");
        for (int k = 1; k <= 10; k++) {
            x.ticks(k);
            c.due("count(13)", x.count(13), k);
        }
        for (int k = 10; k >= 1; k--) {
            c.due("undo()", x.undo(), k - 1);
            c.due("TICK", x.count(5), k * (k - 1) / 2);
        }
        c.due("undo()", x.undo(), -1);
    }

    @Says(in = "Terms 3", value = "the latest 10 can be UNDONE one by one, the latest first")
    static void elevenActs(Check c) {
        MergeBelts x = Check.of("belt 4;");
        for (int k = 1; k <= 11; k++) {
            x.ticks(k);
        }
        c.due("count(13)", x.count(13), 10);
        for (int k = 11; k >= 2; k--) {
            c.due("undo()", x.undo(), k - 2);
            c.due("TICK", x.count(5), k * (k - 1) / 2);
        }
        c.due("undo()", x.undo(), -1);
        c.due("the first one stays", x.count(5), 1);
    }

    @Says(in = "Terms 3", value = "the latest 10 can be UNDONE one by one, the latest first")
    static void manyActsUndoneAndDoneAgain(Check c) {
        MergeBelts x = Check.of("belt 4;");
        for (int k = 0; k < 37; k++) {
            x.ticks(1);
        }
        for (int k = 0; k < 4; k++) {
            x.undo();
        }
        c.row("four UNDONE", new int[] {x.count(5), x.count(13)}, 33, 6);
        for (int k = 0; k < 6; k++) {
            x.ticks(100);
        }
        c.row("six more: the oldest two are gone", new int[] {x.count(5), x.count(13)}, 633, 10);
        int[] ticks = {533, 433, 333, 233, 133, 33, 32, 31, 30, 29};
        for (int k = 0; k < 10; k++) {
            c.due("undo()", x.undo(), 9 - k);
            c.due("TICK", x.count(5), ticks[k]);
        }
        c.due("undo()", x.undo(), -1);
    }
}
