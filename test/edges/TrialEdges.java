/** Boundary cases of 'Terms' 3 and of Promises 18, 21 to 25: TRIAL, LOAD, HEAVIEST, LEAST ROOM, BEST REACH, WITHOUT. */
final class TrialEdges {
    private TrialEdges() {
    }

    private static MergeBelts each() {
        return Check.of("belt 4;exit 1 1;ware 0;side 0 1 0 1;comes 0 0 1 0;comes 0 0 1 0;");
    }

    @Says(in = "Terms 3", value = "A TRIAL of n TICKS (0 to 500)")
    static void aTrialOf0Ticks(Check c) {
        MergeBelts x = each();
        x.ticks(9);
        x.shut(0, 9);
        x.push(0, 0);
        int[] got = {x.trial(0, 0), x.trial(0, 1), x.trial(0, 2), x.trial(0, 3), x.trial(0, 4)};
        c.row("all as it is now", got, 0, 0, 1, 1, 0);
    }

    @Says(in = "Terms 3", value = "A TRIAL of n TICKS (0 to 500)")
    static void aTrialOf1Tick(Check c) {
        MergeBelts x = each();
        x.ticks(1);
        int[] got = {x.trial(1, 0), x.trial(1, 1), x.trial(1, 2), x.trial(1, 3), x.trial(1, 4)};
        c.row("one TAKEN, one LOST, one at PLACE 0", got, 1, 1, 1, 0, 0);
    }

    @Says(in = "Terms 3", value = "A TRIAL of n TICKS (0 to 500)")
    static void aTrialOf500Ticks(Check c) {
        MergeBelts x = each();
        int[] got = {x.trial(500, 0), x.trial(500, 1), x.trial(500, 2), x.trial(500, 3), x.trial(500, 4)};
        c.row("all but that of the last TICK are TAKEN", got, 499, 500, 1, 0, 0);
    }

    @Says(in = "Terms 3", value = "A TRIAL of n TICKS (0 to 500): all goes on from now, nothing stays.")
    static void nothingStays(Check c) {
        c.changesNothing(TrialEdges::each, x -> {
            x.trial(500, 0);
            x.again(0);
            x.rate(0, -1);
            x.leastRoom(0, 500);
            x.bestReach(0, 200);
            x.without(0, 500);
            x.heaviest();
            x.load(0, true);
        });
    }

    @Says(in = "Promise 18", value = "4 the longest JAM at its end")
    static void theLongestOfNoneOneAndTwo(Check c) {
        c.due("without EXITS", Check.of("belt 4;side 0 1 0 1;").trial(9, 4), 0);
        MergeBelts x = Check.of("belt 9;exit 4 1;exit 8 1;ware 0;ware 1;side 3 9 0 1;side 7 9 0 1;");
        c.due("without ITEMS", x.trial(9, 4), 0);
        for (int exit = 0; exit < 2; exit++) {
            MergeBelts y = Check.of("belt 9;exit 4 1;exit 8 1;ware 0;ware 1;side 3 9 0 1;side 7 9 0 1;");
            y.shut(0, 99);
            y.shut(1, 99);
            Check.push(y, 3, exit, exit);
            y.push(1 - exit, 1 - exit);
            c.due("behind 1 TICK none is there", y.trial(1, 4), 0);
            c.due("2 at EXIT " + exit + ", 1 at the other one", y.trial(2, 4), 2);
        }
    }

    @Says(in = "Promise 18", value = "NoSuchElementException: another what. IllegalArgumentException (behind that): n.")
    static void trialsThatAreRefused(Check c) {
        c.changesNothing(TrialEdges::each, x -> {
            c.noSuch("trial(0, 5)", () -> x.trial(0, 5));
            c.noSuch("trial(0, -1)", () -> x.trial(0, -1));
            c.illegal("trial(-1, 0)", () -> x.trial(-1, 0));
            c.illegal("trial(501, 4)", () -> x.trial(501, 4));
            c.illegal("trial(MIN, 0)", () -> x.trial(Integer.MIN_VALUE, 0));
            c.illegal("trial(MAX, 0)", () -> x.trial(Integer.MAX_VALUE, 0));
        });
    }

    @Says(in = "Promise 18", value = "IllegalArgumentException (behind that): n.")
    static void aTrialOfAnotherWhatAndN(Check c) {
        MergeBelts x = each();
        c.noSuch("trial(501, 5)", () -> x.trial(501, 5));
        c.noSuch("trial(-1, -1)", () -> x.trial(-1, -1));
    }

    private static void load(Check c, MergeBelts x, int place, long upper, long lower) {
        c.due("load(" + place + ", false)", x.load(place, false), upper);
        c.due("load(" + place + ", true)", x.load(place, true), lower);
    }

    @Says(in = "Terms 3", value = "if the PLACE is one of those from its SIDE's on to the one ahead of its WARE's EXIT")
    static void fromTheSideToTheOneAheadOfTheExit(Check c) {
        MergeBelts x = Check.of("belt 9;exit 6 1;ware 0;side 3 1 0 1;comes 0 0 7 999;");
        load(c, x, 2, 0, 1);
        load(c, x, 3, 1, 7);
        load(c, x, 5, 1, 7);
        load(c, x, 6, 0, 1);
    }

    @Says(in = "Terms 3", value = "if the PLACE is one of those from its SIDE's on to the one ahead of its WARE's EXIT")
    static void roundTheLastPlace(Check c) {
        MergeBelts x = Check.of("belt 9;exit 1 1;ware 0;side 7 1 0 1;comes 0 0 30 0;");
        load(c, x, 6, 0, 1);
        load(c, x, 7, 1, 30);
        load(c, x, 8, 1, 30);
        load(c, x, 0, 1, 30);
        load(c, x, 1, 0, 1);
    }

    @Says(in = "Terms 3", value = "(the SIDE's own one; of an EXIT at the SIDE's PLACE all N)")
    static void theSidesOwnOneAlone(Check c) {
        MergeBelts x = Check.of("belt 4;exit 0 1;ware 0;side 3 1 0 1;comes 0 0 2 0;");
        load(c, x, 2, 0, 1);
        load(c, x, 3, 1, 2);
        load(c, x, 0, 0, 1);
    }

    @Says(in = "Terms 3", value = "(the SIDE's own one; of an EXIT at the SIDE's PLACE all N)")
    static void anExitAtTheSidesPlace(Check c) {
        MergeBelts x = Check.of("belt 4;exit 2 1;ware 0;side 2 1 0 1;comes 0 0 2 0;");
        for (int p = 0; p < 4; p++) {
            load(c, x, p, 1, 2);
        }
    }

    @Says(in = "Terms 3", value = "together, in lowest terms")
    static void inLowestTerms(Check c) {
        MergeBelts x = Check.of("belt 4;exit 1 1;ware 0;side 0 1 0 1;comes 0 0 6 0;comes 0 0 10 0;comes 0 0 15 0;");
        load(c, x, 0, 1, 3);
        MergeBelts y = Check.of("belt 4;exit 1 1;ware 0;side 0 1 0 1;comes 0 0 2 0;comes 0 0 2 0;");
        load(c, y, 0, 1, 1);
        MergeBelts z = Check.of("belt 4;exit 1 1;ware 0;side 0 1 0 1;comes 0 0 2 0;comes 0 0 3 0;");
        load(c, z, 0, 5, 6);
    }

    @Says(in = "Terms 3", value = "together, in lowest terms")
    static void theGreatestAndTheLeastLoad(Check c) {
        MergeBelts x = Check.of("belt 4;exit 1 1;ware 0;side 0 1 0 1;" + "comes 0 0 1 0;".repeat(12));
        load(c, x, 0, 12, 1);
        MergeBelts y = Check.of("belt 4;exit 1 1;ware 0;side 0 1 0 1;comes 0 0 30 0;");
        load(c, y, 0, 1, 30);
    }

    @Says(in = "Terms 3", value = "together, in lowest terms")
    static void theLongestLowerNumber(Check c) {
        MergeBelts x = Check.of("belt 4;exit 1 1;ware 0;side 0 1 0 1;comes 0 0 29 0;comes 0 0 23 0;comes 0 0 19 0;"
            + "comes 0 0 17 0;comes 0 0 13 0;comes 0 0 11 0;comes 0 0 7 0;comes 0 0 25 0;comes 0 0 27 0;comes 0 0 16 0;");
        long lower = 29L * 23 * 19 * 17 * 13 * 11 * 7 * 25 * 27 * 16;
        long upper = 0;
        for (int every : new int[] {29, 23, 19, 17, 13, 11, 7, 25, 27, 16}) {
            upper += lower / every;
        }
        load(c, x, 0, upper, lower);
    }

    @Says(in = "Promise 21", value = "the lower one (lower; above 0; 1 of 0)")
    static void aLoadOf0(Check c) {
        load(c, new MergeBelts(), 0, 0, 1);
        load(c, Check.of("belt 40;"), 39, 0, 1);
    }

    @Says(in = "Promise 21", value = "NoSuchElementException: no such PLACE.")
    static void loadOfNoPlace(Check c) {
        MergeBelts x = each();
        for (boolean lower : new boolean[] {false, true}) {
            c.noSuch("load(4)", () -> x.load(4, lower));
            c.noSuch("load(-1)", () -> x.load(-1, lower));
        }
    }

    @Says(in = "Promise 22", value = "HEAVIEST.")
    static void theHeaviestOfNoLoad(Check c) {
        c.due("heaviest()", new MergeBelts().heaviest(), 0);
        c.due("heaviest()", Check.of("belt 9;exit 6 1;ware 0;side 3 1 0 1;").heaviest(), 0);
    }

    @Says(in = "Terms 3", value = "HEAVIEST: the PLACE with the greatest (of several the least).")
    static void theLeastOfSeveralHeaviest(Check c) {
        c.due("3, 4 and 5", Check.of("belt 9;exit 6 1;ware 0;side 3 1 0 1;comes 0 0 7 0;").heaviest(), 3);
        c.due("7, 8 and 0", Check.of("belt 9;exit 1 1;ware 0;side 7 1 0 1;comes 0 0 7 0;").heaviest(), 0);
        c.due("all", Check.of("belt 9;exit 6 1;ware 0;side 6 1 0 1;comes 0 0 7 0;").heaviest(), 0);
    }

    @Says(in = "Terms 3", value = "HEAVIEST: the PLACE with the greatest (of several the least).")
    static void eachPlaceAlone(Check c) {
        for (int p = 0; p < 4; p++) {
            MergeBelts x = Check.of("belt 4;exit " + (p + 1) % 4 + " 1;ware 0;side " + p + " 1 0 1;comes 0 0 7 0;");
            c.due("heaviest()", x.heaviest(), p);
        }
    }

    @Says(in = "Terms 3", value = "HEAVIEST: the PLACE with the greatest (of several the least).")
    static void theLastPlaceAlone(Check c) {
        MergeBelts x = Check.of("belt 9;exit 0 1;exit 6 1;ware 0;ware 1;side 8 1 0 1;side 3 1 0 1;comes 0 0 29 0;comes 1 1 30 0;");
        c.due("1 by 29 is more than 1 by 30", x.heaviest(), 8);
    }

    @Says(in = "Terms 3", value = "the least ROOM (1 to 20) for it, all else as it is, by which nothing of it is LOST")
    static void aLeastRoomOf1(Check c) {
        c.due("nobody comes", Check.of("belt 4;side 0 9 0 1;").leastRoom(0, 500), 1);
        c.due("who comes goes at once", Check.of("belt 4;exit 1 1;ware 0;side 0 9 0 1;comes 0 0 1 0;").leastRoom(0, 500), 1);
    }

    /** SIDE 1 waits from TICK 1 on, as all that comes to it is of SIDE 0. */
    private static MergeBelts starving() {
        return Check.of("belt 4;exit 2 1;ware 0;side 0 1 0 1;comes 0 0 1 0;side 1 1 0 1;comes 1 0 1 0;");
    }

    @Says(in = "Terms 3", value = "the least ROOM (1 to 20) for it, all else as it is, by which nothing of it is LOST")
    static void aLeastRoomOf20(Check c) {
        c.due("in TICK 20 the twentieth waits", starving().leastRoom(1, 21), 20);
        c.due("in TICK 19 the nineteenth", starving().leastRoom(1, 20), 19);
    }

    @Says(in = "Promise 23", value = "LEAST ROOM; NONE: none.")
    static void noLeastRoom(Check c) {
        c.due("in TICK 21 one is LOST by each ROOM", starving().leastRoom(1, 22), -1);
        c.due("of the longest", starving().leastRoom(1, 500), -1);
    }

    @Says(in = "Terms 3", value = "(fewer than wait now can't be)")
    static void asManyAsWaitNow(Check c) {
        MergeBelts x = Check.of("belt 4;exit 1 1;ware 0;side 0 20 0 1;");
        for (int waits = 1; waits <= 20; waits++) {
            x.push(0, 0);
            c.due(waits + " wait", x.leastRoom(0, 9), waits);
        }
        x.change(0, 0, 1);
        c.due("whatever ROOM it has", x.leastRoom(0, 9), 20);
    }

    @Says(in = "Terms 3", value = "(fewer than wait now can't be)")
    static void twentyWaitAndOneComes(Check c) {
        MergeBelts x = Check.of("belt 4;exit 1 1;ware 0;side 0 20 0 1;comes 0 0 30 1;");
        Check.push(x, 20, 0, 0);
        c.due("one went in TICK 0", x.leastRoom(0, 29), 20);
        MergeBelts y = Check.of("belt 4;exit 1 1;ware 0;side 0 20 0 1;comes 0 0 30 0;");
        Check.push(y, 20, 0, 0);
        c.due("none had gone", y.leastRoom(0, 1), -1);
    }

    @Says(in = "Terms 3", value = "LEAST ROOM of a SIDE by n TICKS (1 to 500)")
    static void leastRoomBy1And500Ticks(Check c) {
        MergeBelts x = Check.of("belt 4;exit 1 1;ware 0;side 0 1 0 1;" + "comes 0 0 30 0;".repeat(3) + "comes 0 0 2 499;".repeat(5));
        c.due("three in TICK 0", x.leastRoom(0, 1), 3);
        c.due("five in TICK 499 are behind 499 TICKS", x.leastRoom(0, 499), 3);
        c.due("and within 500", x.leastRoom(0, 500), 5);
    }

    @Says(in = "Promise 23", value = "NoSuchElementException: no such SIDE. IllegalArgumentException (behind that): n.")
    static void leastRoomsThatAreRefused(Check c) {
        c.changesNothing(TrialEdges::each, x -> {
            c.noSuch("leastRoom(1, 1)", () -> x.leastRoom(1, 1));
            c.noSuch("leastRoom(-1, 1)", () -> x.leastRoom(-1, 1));
            c.illegal("leastRoom(0, 0)", () -> x.leastRoom(0, 0));
            c.illegal("leastRoom(0, -1)", () -> x.leastRoom(0, -1));
            c.illegal("leastRoom(0, 501)", () -> x.leastRoom(0, 501));
            c.noSuch("leastRoom(1, 0)", () -> x.leastRoom(1, 0));
            c.noSuch("leastRoom(-1, 501)", () -> x.leastRoom(-1, 501));
        });
    }

    /** All PLACES from SIDE 0 at 3 on to SIDE 1 at 1 are full: only the one behind SIDE 0 can be RESERVED. */
    private static MergeBelts behindAnother() {
        return Check.of("belt 4;exit 2 1;ware 0;side 3 1 0 1;side 1 20 0 1;comes 0 0 1 0;comes 1 0 1 0;");
    }

    @Says(in = "Terms 3", value = "the REACH (0 to N - 1) by which most of its ITEMS go to THE BELT in a TRIAL")
    static void aBestReachOfAllOthers(Check c) {
        MergeBelts x = behindAnother();
        c.due("bestReach(1, 100)", x.bestReach(1, 100), 3);
        c.due("without REACH", x.side(1, 2), 0);
        x.ticks(100);
        c.due("only those of TICKS 0 and 1 went", x.side(1, 10), 2);
    }

    /** All is full from SIDE 0 at 3 on when its first one comes to SIDE 1 in TICK 38; the gap of that TICK comes 39 later. */
    @Says(in = "Terms 3", value = "the REACH (0 to N - 1) by which most of its ITEMS go to THE BELT in a TRIAL")
    static void aBestReachOf39(Check c) {
        MergeBelts x = Check.of("belt 40;exit 2 1;ware 0;side 3 1 0 1;side 1 20 0 1;comes 0 0 1 0;comes 1 0 1 0;");
        c.due("by TICK 76", x.bestReach(1, 77), 0);
        c.due("by TICK 77", x.bestReach(1, 78), 39);
        c.due("by TICK 199", x.bestReach(1, 200), 39);
    }

    @Says(in = "Terms 3", value = "the REACH (0 to N - 1) by which most of its ITEMS go to THE BELT in a TRIAL (of several the least)")
    static void aBestReachOf0(Check c) {
        c.due("none waits", Check.of("belt 4;side 0 1 3 1;").bestReach(0, 200), 0);
        c.due("all REACHES are the same", Check.of("belt 4;exit 1 1;ware 0;side 0 1 3 1;comes 0 0 1 0;").bestReach(0, 200), 0);
    }

    @Says(in = "Terms 3", value = "BEST REACH of a SIDE by n TICKS (1 to 200)")
    static void bestReachBy1And200Ticks(Check c) {
        c.due("in one TICK all are the same", behindAnother().bestReach(1, 1), 0);
        c.due("bestReach(1, 200)", behindAnother().bestReach(1, 200), 3);
        // the gap that is RESERVED in TICK 196 comes to SIDE 1 in TICK 199
        MergeBelts x = Check.of("belt 4;exit 2 1;ware 0;side 3 1 0 1;side 1 20 0 1;comes 0 0 1 0;comes 1 0 30 196;");
        c.due("199 TICKS", x.bestReach(1, 199), 0);
        c.due("200 TICKS", x.bestReach(1, 200), 3);
    }

    @Says(in = "Promise 24", value = "NoSuchElementException: no such SIDE. IllegalArgumentException (behind that): n.")
    static void bestReachesThatAreRefused(Check c) {
        c.changesNothing(TrialEdges::each, x -> {
            c.noSuch("bestReach(1, 1)", () -> x.bestReach(1, 1));
            c.noSuch("bestReach(-1, 1)", () -> x.bestReach(-1, 1));
            c.illegal("bestReach(0, 0)", () -> x.bestReach(0, 0));
            c.illegal("bestReach(0, -1)", () -> x.bestReach(0, -1));
            c.illegal("bestReach(0, 201)", () -> x.bestReach(0, 201));
            c.noSuch("bestReach(1, 0)", () -> x.bestReach(1, 0));
            c.noSuch("bestReach(-1, 201)", () -> x.bestReach(-1, 201));
        });
    }

    @Says(in = "Promise 25", value = "WITHOUT a SIDE by n TICKS (0 to 500; it may be below 0).")
    static void withoutBy0Ticks(Check c) {
        MergeBelts x = starving();
        x.ticks(5);
        c.row("without(0, 0), without(1, 0)", new int[] {x.without(0, 0), x.without(1, 0)}, 0, 0);
    }

    @Says(in = "Promise 25", value = "WITHOUT a SIDE by n TICKS (0 to 500; it may be below 0).")
    static void withoutBy1And500Ticks(Check c) {
        MergeBelts x = starving();
        c.due("in TICK 0 none is TAKEN", x.without(0, 1), 0);
        c.due("SIDE 1 is TAKEN in TICKS 1 to 499, not in TICK 1 alone", x.without(0, 500), 498);
        c.due("SIDE 0 is TAKEN from TICK 2 on all the same", x.without(1, 500), 0);
    }

    /** SIDE 1 keeps the second one of SIDE 0 back for a TICK, so that EXIT 0 may take it: without that it goes round. */
    @Says(in = "Promise 25", value = "WITHOUT a SIDE by n TICKS (0 to 500; it may be below 0).")
    static void withoutThatIsBelow0(Check c) {
        MergeBelts x = Check.of("belt 12;exit 6 2;exit 8 1;ware 0;ware 1;side 3 2 0 1;side 2 2 0 1;");
        Check.push(x, 2, 0, 0);
        x.push(1, 1);
        c.due("by 5 TICKS", x.without(1, 5), 0);
        c.due("by 6 TICKS", x.without(1, 6), -1);
        c.due("by 16 TICKS", x.without(1, 16), -1);
        c.due("by 17 TICKS the second one is TAKEN too", x.without(1, 17), 0);
    }

    @Says(in = "Terms 3", value = "none comes to it any more, and none that waits there goes on")
    static void nobodyWaitsAndNobodyComes(Check c) {
        MergeBelts x = Check.of("belt 4;exit 2 1;ware 0;side 0 9 3 1;side 1 9 3 1;comes 1 0 1 0;");
        c.due("without(0, 500)", x.without(0, 500), 0);
    }

    @Says(in = "Terms 3", value = "none comes to it any more, and none that waits there goes on")
    static void whoWaitsAtFirst(Check c) {
        // SIDE 0's only one passes SIDE 1 in TICK 1 and is TAKEN in TICK 2, so that SIDE 1's isn't ahead of TICK 11
        MergeBelts x = Check.of("belt 4;exit 2 9;ware 0;side 0 9 0 1;side 1 9 0 1;comes 1 0 30 1;");
        x.push(0, 0);
        c.due("none of SIDE 1 by TICK 1", x.without(0, 2), 0);
        c.due("TAKEN in TICK 2 instead of that of SIDE 0", x.without(0, 3), 1);
        c.due("one more by TICK 10", x.without(0, 11), 1);
        c.due("not by TICK 11", x.without(0, 12), 0);
    }

    @Says(in = "Terms 3", value = "none comes to it any more, and none that waits there goes on")
    static void whoComesInTheFirstTick(Check c) {
        MergeBelts x = Check.of("belt 4;exit 2 1;ware 0;side 0 9 0 1;side 1 9 0 1;comes 0 0 1 0;comes 1 0 1 1;");
        c.due("SIDE 1 may go in TICK 1 without SIDE 0 alone", x.without(0, 3), 1);
        c.due("one more in each TICK", x.without(0, 500), 498);
    }

    @Says(in = "Terms 3", value = "how many ITEMS of all others are TAKEN more")
    static void withoutTheOnlySide(Check c) {
        MergeBelts x = each();
        c.due("there are no others", x.without(0, 500), 0);
        x.ticks(1);
        c.due("nor is what is at PLACES of others", x.without(0, 500), 0);
    }

    @Says(in = "Promise 25", value = "NoSuchElementException: no such SIDE. IllegalArgumentException (behind that): n.")
    static void withoutsThatAreRefused(Check c) {
        c.changesNothing(TrialEdges::each, x -> {
            c.noSuch("without(1, 0)", () -> x.without(1, 0));
            c.noSuch("without(-1, 0)", () -> x.without(-1, 0));
            c.illegal("without(0, -1)", () -> x.without(0, -1));
            c.illegal("without(0, 501)", () -> x.without(0, 501));
            c.noSuch("without(1, -1)", () -> x.without(1, -1));
            c.noSuch("without(-1, 501)", () -> x.without(-1, 501));
        });
    }
}
