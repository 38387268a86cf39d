/** Boundary cases of Promises 5 to 12: what is asked of one thing. */
final class LookEdges {
    /** Far from all that there can be. */
    private static final int[] WILD = {-1, -2, Integer.MIN_VALUE, Integer.MAX_VALUE, 41, 1 << 16};

    private LookEdges() {
    }

    /** One of each, an ITEM at PLACE 0, one TAKEN, one that waits. */
    private static MergeBelts one() {
        MergeBelts x = Check.of("belt 4;exit 1 1;ware 0;side 0 2 0 1;comes 0 0 1 0;");
        x.ticks(2);
        x.push(0, 0);
        return x;
    }

    @Says(in = "Promise 5", value = "15 whether there are 'turns' (1, 0)")
    static void theFirstAndTheLastCount(Check c) {
        c.due("count(0)", one().count(0), 4);
        c.due("count(15) without", one().count(15), 0);
        c.due("count(15) with", Check.of("belt 4;turns 0;").count(15), 1);
    }

    @Says(in = "Promise 5", value = "NoSuchElementException: another what.")
    static void anotherCount(Check c) {
        MergeBelts x = one();
        c.noSuch("count(16)", () -> x.count(16));
        for (int wild : WILD) {
            c.noSuch("count(" + wild + ")", () -> x.count(wild));
        }
    }

    @Says(in = "Promise 5", value = "6 ITEMS at PLACES, 7 RESERVED ones, 8 free ones, 9 ITEMS that wait, 10 TAKEN ever, 11 LOST ever")
    static void countsOfAnEmptyAndAFullBelt(Check c) {
        MergeBelts x = Check.of("belt 4;exit 3 1;ware 0;side 0 3 3 1;comes 0 0 1 0;");
        x.shut(0, 99);
        c.row("empty", new int[] {x.count(6), x.count(7), x.count(8), x.count(9), x.count(10), x.count(11)}, 0, 0, 4, 0, 0, 0);
        x.ticks(9);
        c.row("full", new int[] {x.count(6), x.count(7), x.count(8), x.count(9), x.count(10), x.count(11)}, 4, 0, 0, 3, 0, 2);
    }

    @Says(in = "Promise 6", value = "(NONE of these: no ITEM)")
    static void aFreePlace(Check c) {
        MergeBelts x = one();
        for (int what = 0; what < 5; what++) {
            c.due("place(3, " + what + ")", x.place(3, what), -1);
        }
    }

    @Says(in = "Promise 6", value = "4 for whom it is RESERVED (NONE)")
    static void aPlaceWithAnItem(Check c) {
        MergeBelts x = Check.of("belt 4;exit 0 1;ware 0;side 1 2 1 1;");
        Check.push(x, 2, 0, 0);
        x.ticks(1);
        c.row("of an ITEM", new int[] {x.place(1, 0), x.place(1, 1), x.place(1, 2), x.place(1, 3), x.place(1, 4)}, 0, 0, 0, 1, -1);
        c.row("of a gap", new int[] {x.place(0, 0), x.place(0, 1), x.place(0, 2), x.place(0, 3), x.place(0, 4)}, -1, -1, -1, -1, 0);
    }

    @Says(in = "Promise 6", value = "(NONE of these: no ITEM)")
    static void aPlaceFromWhichOneWasTaken(Check c) {
        MergeBelts x = Check.of("belt 4;exit 1 1;ware 0;side 0 2 0 1;");
        x.push(0, 0);
        x.ticks(2);
        for (int what = 0; what < 5; what++) {
            c.due("place(1, " + what + ")", x.place(1, what), -1);
        }
    }

    @Says(in = "Promise 6", value = "NoSuchElementException: no such PLACE, another what.")
    static void noSuchPlace(Check c) {
        MergeBelts x = one();
        c.noSuch("place(4, 0)", () -> x.place(4, 0));
        c.noSuch("place(0, 5)", () -> x.place(0, 5));
        for (int wild : WILD) {
            c.noSuch("place(" + wild + ", 0)", () -> x.place(wild, 0));
            c.noSuch("place(0, " + wild + ")", () -> x.place(0, wild));
        }
    }

    @Says(in = "Promise 7", value = "2 for how many TICKS it is SHUT yet")
    static void shutFor999And0Ticks(Check c) {
        MergeBelts x = one();
        c.due("never", x.exit(0, 2), 0);
        x.shut(0, 999);
        c.due("the longest", x.exit(0, 2), 999);
        x.ticks(500);
        c.due("498 more", x.exit(0, 2), 499);
        x.ticks(499);
        c.due("no more", x.exit(0, 2), 0);
    }

    @Says(in = "Promise 7", value = "5 in how many TICKS it may take again, if it isn't SHUT (0: in the next one)")
    static void inHowManyTicksItMayTake(Check c) {
        MergeBelts x = Check.of("belt 4;exit 1 2;ware 0;side 0 2 0 1;");
        c.due("never took one", x.exit(0, 5), 0);
        x.push(0, 0);
        x.ticks(2);
        c.due("took one in the latest TICK", x.exit(0, 5), 1);
        x.shut(0, 99);
        c.due("SHUT for longer", x.exit(0, 5), 1);
        x.ticks(1);
        c.due("in the next one", x.exit(0, 5), 0);
        x.ticks(1);
        c.due("not below 0", x.exit(0, 5), 0);
        MergeBelts y = Check.of("belt 4;exit 1 1;ware 0;side 0 2 0 1;");
        y.push(0, 0);
        y.ticks(2);
        c.due("by a PACE of 1", y.exit(0, 5), 0);
    }

    @Says(in = "Promise 7", value = "NoSuchElementException: no such EXIT, another what.")
    static void noSuchExit(Check c) {
        MergeBelts x = one();
        c.due("exit(0, 3)", x.exit(0, 3), 1);
        c.noSuch("exit(1, 0)", () -> x.exit(1, 0));
        c.noSuch("exit(0, 6)", () -> x.exit(0, 6));
        for (int wild : WILD) {
            c.noSuch("exit(" + wild + ", 0)", () -> x.exit(wild, 0));
            c.noSuch("exit(0, " + wild + ")", () -> x.exit(0, wild));
        }
    }

    @Says(in = "Promise 8", value = "2 how many of it are at PLACES, 3 wait, 4 were TAKEN")
    static void aWareOfWhichThereIsNone(Check c) {
        MergeBelts x = Check.of("belt 4;exit 1 1;ware 0;ware 0 urgent;side 0 20 0 1;");
        Check.push(x, 20, 0, 0);
        x.ticks(3);
        c.row("WARE 0", new int[] {x.ware(0, 1), x.ware(0, 2), x.ware(0, 3), x.ware(0, 4)}, 0, 1, 17, 2);
        c.row("WARE 1", new int[] {x.ware(1, 1), x.ware(1, 2), x.ware(1, 3), x.ware(1, 4)}, 1, 0, 0, 0);
    }

    @Says(in = "Promise 8", value = "2 how many of it are at PLACES, 3 wait, 4 were TAKEN")
    static void aWareAtAllPlaces(Check c) {
        MergeBelts x = Check.of("belt 4;exit 0 1;ware 0;side 0 9 0 1;");
        Check.push(x, 9, 0, 0);
        for (int k = 1; k <= 4; k++) {
            x.ticks(1);
            c.row("at PLACES, wait", new int[] {x.ware(0, 2), x.ware(0, 3), x.count(6)}, k, 9 - k, k);
        }
    }

    @Says(in = "Promise 8", value = "NoSuchElementException: no such WARE, another what.")
    static void noSuchWare(Check c) {
        MergeBelts x = one();
        c.due("ware(0, 4)", x.ware(0, 4), 1);
        c.noSuch("ware(1, 0)", () -> x.ware(1, 0));
        c.noSuch("ware(0, 5)", () -> x.ware(0, 5));
        for (int wild : WILD) {
            c.noSuch("ware(" + wild + ", 0)", () -> x.ware(wild, 0));
            c.noSuch("ware(0, " + wild + ")", () -> x.ware(0, wild));
        }
    }

    @Says(in = "Promise 9", value = "13 the longest WAIT of those that went (0 without)")
    static void theLongestWaitOfNone(Check c) {
        MergeBelts x = Check.of("belt 4;exit 2 1;ware 0;side 0 1 0 1;side 1 1 0 1;comes 0 0 1 0;");
        x.ticks(5);
        x.push(1, 0);
        x.ticks(9);
        c.due("one waits for nine TICKS", x.side(1, 7), 9);
        c.row("but none went", new int[] {x.side(1, 10), x.side(1, 13)}, 0, 0);
        c.row("those that went at once", new int[] {x.side(0, 10), x.side(0, 13)}, 14, 0);
    }

    @Says(in = "Promise 9", value = "13 the longest WAIT of those that went (0 without)")
    static void aShorterWaitBehindALongerOne(Check c) {
        MergeBelts x = Check.of("belt 4;exit 1 1;ware 0;side 0 9 0 1;");
        Check.push(x, 4, 0, 0);
        x.ticks(4);
        c.due("the fourth", x.side(0, 13), 3);
        x.push(0, 0);
        x.ticks(1);
        c.due("one that goes at once", x.side(0, 13), 3);
    }

    @Says(in = "Promise 9", value = "NoSuchElementException: no such SIDE, another what.")
    static void noSuchSide(Check c) {
        MergeBelts x = one();
        c.due("side(0, 13)", x.side(0, 13), 0);
        c.noSuch("side(1, 0)", () -> x.side(1, 0));
        c.noSuch("side(0, 14)", () -> x.side(0, 14));
        for (int wild : WILD) {
            c.noSuch("side(" + wild + ", 0)", () -> x.side(wild, 0));
            c.noSuch("side(0, " + wild + ")", () -> x.side(0, wild));
        }
    }

    @Says(in = "Promise 10", value = "The WARE of the k-th ITEM that waits at a SIDE (0 on).")
    static void theFirstAndTheLastThatWait(Check c) {
        MergeBelts x = Check.of("belt 4;exit 1 1;ware 0;ware 0;ware 0;side 0 20 0 1;");
        x.push(0, 1);
        Check.push(x, 18, 0, 0);
        x.push(0, 2);
        c.row("0, 1, 18, 19", new int[] {x.waiting(0, 0), x.waiting(0, 1), x.waiting(0, 18), x.waiting(0, 19)}, 1, 0, 0, 2);
    }

    /** At SIDE k and at k ITEMS behind it WARE k, else WARE 7. */
    @Says(in = "Promise 10", value = "The WARE of the k-th ITEM that waits at a SIDE (0 on).")
    static void allSidesAreFull(Check c) {
        MergeBelts x = Check.of("belt 9;exit 8 1;" + "ware 0;".repeat(8)
            + "side 0 20 0 1;side 1 20 0 1;side 2 20 0 1;side 3 20 0 1;side 4 20 0 1;side 5 20 0 1;");
        x.ticks(3);
        for (int side = 0; side < 6; side++) {
            for (int k = 0; k < 20; k++) {
                x.push(side, k == 19 - side ? side : 7);
            }
        }
        c.due("who waits", x.count(9), 120);
        x.ticks(1);
        for (int side = 0; side < 6; side++) {
            c.row("one of " + side + " went", new int[] {x.side(side, 4), x.side(side, 10), x.side(side, 7)}, 19, 1, 1);
            for (int k = 0; k < 19; k++) {
                c.due("waiting(" + side + ", " + k + ")", x.waiting(side, k), k == 18 - side ? side : 7);
            }
            int last = side;
            c.noSuch("waiting(" + side + ", 19)", () -> x.waiting(last, 19));
        }
    }

    @Says(in = "Promise 10", value = "NoSuchElementException: no such SIDE, ITEM.")
    static void nobodyWaits(Check c) {
        MergeBelts x = Check.of("belt 4;exit 1 1;ware 0;side 0 20 0 1;");
        c.noSuch("waiting(0, 0)", () -> x.waiting(0, 0));
        x.push(0, 0);
        x.ticks(1);
        c.noSuch("waiting(0, 0) behind the one that went", () -> x.waiting(0, 0));
    }

    @Says(in = "Promise 10", value = "NoSuchElementException: no such SIDE, ITEM.")
    static void noSuchItem(Check c) {
        MergeBelts x = one();
        c.due("waiting(0, 0)", x.waiting(0, 0), 0);
        c.noSuch("waiting(0, 1)", () -> x.waiting(0, 1));
        c.noSuch("waiting(1, 0)", () -> x.waiting(1, 0));
        for (int wild : WILD) {
            c.noSuch("waiting(" + wild + ", 0)", () -> x.waiting(wild, 0));
            c.noSuch("waiting(0, " + wild + ")", () -> x.waiting(0, wild));
        }
    }

    @Says(in = "Promise 11", value = "4 in how many TICKS it is due next (0: in the next one)")
    static void inHowManyTicksItIsDue(Check c) {
        MergeBelts x = Check.of("belt 4;exit 1 1;ware 0;side 0 9 0 1;comes 0 0 3 2;comes 0 0 1 0;");
        int[] due = {2, 1, 0, 2, 1, 0, 2};
        for (int tick = 0; tick < due.length; tick++) {
            c.due("of EVERY 3 FROM 2 at TICK " + tick, x.coming(0, 4), due[tick]);
            c.due("of EVERY 1", x.coming(1, 4), 0);
            x.ticks(1);
        }
    }

    @Says(in = "Promise 11", value = "NoSuchElementException: no such COMING, another what.")
    static void noSuchComing(Check c) {
        MergeBelts x = one();
        c.row("coming(0, 0) to (0, 4)", new int[] {x.coming(0, 0), x.coming(0, 1), x.coming(0, 2), x.coming(0, 3), x.coming(0, 4)}, 0, 0, 1, 0, 0);
        c.noSuch("coming(1, 0)", () -> x.coming(1, 0));
        c.noSuch("coming(0, 5)", () -> x.coming(0, 5));
        for (int wild : WILD) {
            c.noSuch("coming(" + wild + ", 0)", () -> x.coming(wild, 0));
            c.noSuch("coming(0, " + wild + ")", () -> x.coming(0, wild));
        }
    }

    @Says(in = "Promise 12", value = "THE LOG so many ago (0 the latest)")
    static void theLatestAndTheOnlyOne(Check c) {
        MergeBelts x = one();
        int[] row = new int[7];
        for (int what = 0; what < 7; what++) {
            row[what] = x.log(0, what);
        }
        c.row("log(0)", row, 1, 0, 0, 0, 0, 1, 0);
    }

    @Says(in = "Promise 12", value = "NoSuchElementException: there is none such, another what.")
    static void noSuchRow(Check c) {
        MergeBelts x = one();
        c.noSuch("log(1, 0)", () -> x.log(1, 0));
        c.noSuch("log(0, 7)", () -> x.log(0, 7));
        for (int wild : WILD) {
            c.noSuch("log(" + wild + ", 0)", () -> x.log(wild, 0));
            c.noSuch("log(0, " + wild + ")", () -> x.log(0, wild));
        }
        MergeBelts none = new MergeBelts();
        c.noSuch("log(0, 0) of an empty one", () -> none.log(0, 0));
    }
}
