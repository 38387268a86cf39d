/** Boundary cases of 'Terms' 3, AGAIN: each of what must be as it was, where all else is. */
final class AgainEdges {
    private AgainEdges() {
    }

    private static void again(Check c, MergeBelts x, int t, int d) {
        c.due("again(0)", x.again(0), t);
        c.due("again(1)", x.again(1), d);
    }

    @Says(in = "Terms 3", value = "the least t (0 on) and d (1 on)")
    static void nothingEverMoves(Check c) {
        again(c, Check.of("belt 4;exit 0 9;ware 0;side 0 1 3 1;"), 0, 1);
    }

    @Says(in = "Terms 3", value = "the least t (0 on) and d (1 on)")
    static void atOnceAndInEachTick(Check c) {
        MergeBelts x = Check.of("belt 4;exit 1 1;ware 0;side 0 1 0 1;comes 0 0 1 0;");
        again(c, x, 1, 1);
        x.ticks(1);
        again(c, x, 0, 1);
    }

    @Says(in = "Terms 3", value = "t and d together 500 at most")
    static void tAndDAre500(Check c) {
        MergeBelts x = Check.of("belt 4;exit 0 1;");
        x.shut(0, 499);
        again(c, x, 499, 1);
    }

    @Says(in = "Terms 3", value = "t and d together 500 at most")
    static void tAndDWouldBe501(Check c) {
        MergeBelts x = Check.of("belt 4;exit 0 1;");
        x.shut(0, 500);
        again(c, x, -1, -1);
        c.due("no RATE", x.rate(0, -1), -1);
        x.ticks(1);
        again(c, x, 499, 1);
    }

    @Says(in = "Terms 3", value = "t and d together 500 at most")
    static void aLongDAndAShortT(Check c) {
        String text = "belt 6;exit 3 1;ware 0;side 0 2 0 1;comes 0 0 29 0;comes 0 0 17 ";
        again(c, Check.of(text + "0;"), 0, 29 * 17);
        again(c, Check.of(text + "20;"), 7, 29 * 17);
        again(c, Check.of(text + "21;"), -1, -1);
    }

    @Says(in = "Terms 3", value = "t and d together 500 at most")
    static void aDBeyond500(Check c) {
        again(c, Check.of("belt 6;exit 3 1;ware 0;side 0 2 0 1;comes 0 0 29 0;comes 0 0 23 0;"), -1, -1);
    }

    /** One of WARE 1 goes where one of WARE 0 goes four TICKS later. */
    @Says(in = "Terms 3", value = "what is at PLACES (WARES and SIDES of ITEMS, for whom they are RESERVED)")
    static void anotherWareAtAPlace(Check c) {
        String text = "belt 6;exit 3 1;ware 0;ware 0;side 0 2 0 1;comes 0 0 4 4;";
        MergeBelts x = Check.of(text);
        x.push(0, 1);
        again(c, x, 4, 4);
        MergeBelts y = Check.of(text);
        y.push(0, 0);
        again(c, y, 1, 4);
    }

    /** One of SIDE 1 passes SIDE 0 four TICKS ahead of the first one of that. */
    @Says(in = "Terms 3", value = "what is at PLACES (WARES and SIDES of ITEMS, for whom they are RESERVED)")
    static void anItemOfAnotherSideAtAPlace(Check c) {
        MergeBelts x = Check.of("belt 6;exit 3 1;ware 0;side 0 2 0 1;side 5 2 0 1;comes 0 0 4 5;");
        x.push(1, 0);
        again(c, x, 5, 4);
        MergeBelts y = Check.of("belt 6;exit 3 1;ware 0;side 0 2 0 1;side 5 2 0 1;comes 0 0 4 5;");
        y.ticks(1);
        y.push(0, 0);
        again(c, y, 1, 4);
    }

    /** ROUNDS and RIDES aren't told there: the one of TICK 0 is at PLACE 0 again in TICK 6. */
    @Says(in = "Terms 3", value = "what is at PLACES (WARES and SIDES of ITEMS, for whom they are RESERVED)")
    static void anItemWithARoundMore(Check c) {
        MergeBelts x = Check.of("belt 6;exit 3 1;ware 0;side 0 2 0 1;comes 0 0 4 10;");
        x.push(0, 0);
        x.shut(0, 4);
        x.ticks(7);
        c.due("ROUNDS", x.place(0, 2), 1);
        again(c, x, 0, 4);
    }

    /** A gap for nobody comes to SIDE 0 a TICK behind all else. */
    @Says(in = "Terms 3", value = "what is at PLACES (WARES and SIDES of ITEMS, for whom they are RESERVED)")
    static void aGapAtAPlace(Check c) {
        MergeBelts x = Check.of("belt 6;exit 3 1;exit 4 1;ware 0;ware 1;side 3 3 3 1;side 1 3 0 1;");
        x.push(1, 0);
        x.ticks(1);
        x.push(1, 0);
        Check.push(x, 2, 0, 1);
        x.ticks(3);
        c.row("one is RESERVED, nobody waits, no ITEM is there", new int[] {x.count(7), x.count(9), x.count(6)}, 1, 0, 0);
        again(c, x, 1, 1);
        x.ticks(1);
        again(c, x, 0, 1);
    }

    /** SIDE 0 may go in TICKS 0, 4, 8, .. alone; one comes there in TICKS 1, 5, 9, .. */
    private static final String ONE_OF_FOUR =
        "belt 4;exit 1 1;ware 0;ware 0;side 0 9 0 1;side 3 9 0 1;comes 1 0 4 0;comes 1 0 4 1;comes 1 0 4 2;";

    @Says(in = "Terms 3", value = "who waits (WARES, in order)")
    static void anotherWareWaits(Check c) {
        MergeBelts x = Check.of(ONE_OF_FOUR + "comes 0 0 4 1;");
        x.ticks(1);
        x.push(0, 1);
        x.ticks(1);
        again(c, x, 4, 4);
        MergeBelts y = Check.of(ONE_OF_FOUR + "comes 0 0 4 1;");
        y.ticks(1);
        y.push(0, 0);
        y.ticks(1);
        again(c, y, 0, 4);
    }

    @Says(in = "Terms 3", value = "who waits (WARES, in order)")
    static void theSameWaresInAnotherOrder(Check c) {
        MergeBelts x = Check.of(ONE_OF_FOUR + "comes 0 0 8 1;comes 0 1 8 5;");
        x.ticks(1);
        x.push(0, 1);
        x.push(0, 0);
        x.ticks(1);
        c.row("1, 0 and 0 wait", new int[] {x.waiting(0, 0), x.waiting(0, 1), x.waiting(0, 2)}, 1, 0, 0);
        again(c, x, 8, 8);
    }

    @Says(in = "Terms 3", value = "who waits (WARES, in order)")
    static void oneMoreWaitsTillRoomIsFull(Check c) {
        String text = "belt 4;exit 2 1;ware 0;side 0 1 0 1;comes 0 0 1 0;side 1 4 0 1;comes 1 0 1 0;";
        again(c, Check.of(text), 5, 1);
    }

    @Says(in = "Terms 3", value = "credits, how long EXITS are SHUT")
    static void creditsWhateverTurnsAskFor(Check c) {
        String text = "belt 8;exit 7 1;ware 0;side 5 9 2 1;side 4 9 1 1;comes 0 0 9 0;comes 0 0 9 0;comes 1 0 9 0;comes 1 0 9 0;";
        c.due("by credits of 0 and 0 in each second round", Check.of(text).again(1), 18);
        MergeBelts x = Check.of(text + "turns side;");
        x.ticks(9);
        c.row("they go away from 0", new int[] {x.side(0, 6), x.side(1, 6)}, 1, -1);
        again(c, x, -1, -1);
    }

    @Says(in = "Terms 3", value = "how long EXITS are SHUT and till they may take")
    static void anExitThatIsShut(Check c) {
        MergeBelts x = Check.of("belt 4;exit 0 1;");
        x.shut(0, 1);
        again(c, x, 1, 1);
        x.shut(0, 0);
        again(c, x, 0, 1);
    }

    @Says(in = "Terms 3", value = "how long EXITS are SHUT and till they may take")
    static void anExitThatMayNotTakeYet(Check c) {
        MergeBelts x = Check.of("belt 4;exit 1 9;ware 0;side 0 1 0 1;");
        x.push(0, 0);
        x.ticks(2);
        c.due("in eight TICKS", x.exit(0, 5), 8);
        again(c, x, 8, 1);
    }

    @Says(in = "Terms 3", value = "how long it is till each COMING is due next")
    static void aComingThatBegins(Check c) {
        String text = "belt 4;exit 1 1;ware 0;side 0 1 0 1;comes 0 0 5 ";
        again(c, Check.of(text + "0;"), 0, 5);
        again(c, Check.of(text + "3;"), 0, 5);
        again(c, Check.of(text + "4;"), 1, 5);
        again(c, Check.of(text + "10;"), 7, 5);
    }

    @Says(in = "Terms 3", value = "how long it is till each COMING is due next")
    static void aComingThatIsAlwaysLost(Check c) {
        // SIDE 1 is full and stays so: what comes there changes nothing but when it is due
        MergeBelts x = Check.of("belt 4;exit 2 1;ware 0;side 0 1 0 1;comes 0 0 1 0;side 1 1 0 1;comes 1 0 7 1;");
        x.ticks(20);
        again(c, x, 0, 7);
    }

    /** One waits at SIDE 1 for ever, as all PLACES come to it full. */
    @Says(in = "Terms 3", value = "(if 'turns' asks for late: also since when each that waits does)")
    static void sinceWhenOneWaits(Check c) {
        String text = "belt 4;exit 2 1;ware 0;side 0 3 0 1;side 1 3 0 1;comes 0 0 1 0;";
        for (String turns : new String[] {"", "turns waits;", "turns 0;", "turns late;", "turns 1+(waits-late*0);"}) {
            MergeBelts x = Check.of(text + turns);
            x.ticks(6);
            x.push(1, 0);
            int due = turns.contains("late") ? -1 : 0;
            c.due("again(0) with '" + turns + "'", x.again(0), due);
        }
    }

    /** Of the two that wait the first came 6 TICKS ago, as later each fourth TICK, but the second one 1, not 2. */
    @Says(in = "Terms 3", value = "(if 'turns' asks for late: also since when each that waits does)")
    static void sinceWhenTheSecondOneWaits(Check c) {
        for (String turns : new String[] {"", "turns late;"}) {
            MergeBelts x = Check.of(ONE_OF_FOUR + "comes 0 0 4 9;" + turns);
            x.ticks(1);
            Check.push(x, 2, 0, 0);
            x.ticks(5);
            x.push(0, 0);
            x.ticks(1);
            c.row("two wait, the first for 6 TICKS", new int[] {x.side(0, 4), x.side(0, 7)}, 2, 6);
            again(c, x, turns.isEmpty() ? 0 : 6, 4);
        }
    }

    @Says(in = "Promise 19", value = "NONE: none.")
    static void none(Check c) {
        MergeBelts x = Check.of("belt 4;exit 0 1;");
        x.shut(0, 999);
        again(c, x, -1, -1);
    }

    @Says(in = "Promise 19", value = "NoSuchElementException: another what.")
    static void anotherWhat(Check c) {
        MergeBelts x = Check.of("belt 4;exit 0 1;");
        c.noSuch("again(2)", () -> x.again(2));
        c.noSuch("again(-1)", () -> x.again(-1));
        x.shut(0, 999);
        c.noSuch("again(2) without AGAIN", () -> x.again(2));
    }

    @Says(in = "Promise 20", value = "NONE: there is no AGAIN.")
    static void noRateWithoutAgain(Check c) {
        MergeBelts x = Check.of("belt 4;exit 1 1;ware 0;side 0 1 0 1;comes 0 0 1 0;");
        x.shut(0, 500);
        for (int what = 0; what < 3; what++) {
            int w = what;
            c.due("rate(" + what + ", NONE)", x.rate(w, -1), -1);
            c.due("rate(" + what + ", 0)", x.rate(w, 0), -1);
        }
    }

    @Says(in = "Promise 20", value = "NoSuchElementException: no such i, another what.")
    static void aRateOfNothingThere(Check c) {
        MergeBelts x = Check.of("belt 4;exit 1 1;exit 2 1;ware 0;side 0 1 0 1;");
        c.due("EXIT 1", x.rate(0, 1), 0);
        c.noSuch("EXIT 2", () -> x.rate(0, 2));
        c.noSuch("SIDE 1", () -> x.rate(1, 1));
        c.noSuch("LOST of SIDE 1", () -> x.rate(2, 1));
        c.noSuch("EXIT -2", () -> x.rate(0, -2));
        c.noSuch("SIDE -2", () -> x.rate(1, -2));
        c.noSuch("another what", () -> x.rate(3, 0));
        c.noSuch("another what", () -> x.rate(-1, -1));
        x.shut(0, 999);
        c.noSuch("also without AGAIN", () -> x.rate(0, 2));
        c.noSuch("also without AGAIN", () -> x.rate(3, -1));
    }

    @Says(in = "Terms 3", value = "RATE: in d such TICKS how many are TAKEN (at an EXIT, of a SIDE), LOST (of a SIDE).")
    static void rateOfOneTick(Check c) {
        MergeBelts x = Check.of("belt 4;exit 1 1;exit 2 1;ware 0;side 0 1 0 1;comes 0 0 1 0;comes 0 0 1 0;comes 0 0 1 0;side 3 1 0 1;");
        c.due("d", x.again(1), 1);
        c.row("TAKEN at EXITS", new int[] {x.rate(0, 0), x.rate(0, 1), x.rate(0, -1)}, 1, 0, 1);
        c.row("TAKEN of SIDES", new int[] {x.rate(1, 0), x.rate(1, 1), x.rate(1, -1)}, 1, 0, 1);
        c.row("LOST of SIDES", new int[] {x.rate(2, 0), x.rate(2, 1), x.rate(2, -1)}, 2, 0, 2);
    }

    @Says(in = "Terms 3", value = "RATE: in d such TICKS how many are TAKEN (at an EXIT, of a SIDE), LOST (of a SIDE).")
    static void rateOfTheLastExitAndSide(Check c) {
        MergeBelts x = Check.of("belt 12;exit 11 1;exit 1 1;exit 2 1;exit 3 1;exit 4 1;exit 6 1;ware 5;"
            + "side 11 1 0 1;side 1 1 0 1;side 2 1 0 1;side 3 1 0 1;side 4 1 0 1;side 5 1 0 1;comes 5 0 2 0;comes 5 0 4 0;");
        c.due("d", x.again(1), 4);
        c.row("TAKEN", new int[] {x.rate(0, 5), x.rate(0, 4), x.rate(0, -1), x.rate(1, 5), x.rate(1, 4)}, 2, 0, 2, 2, 0);
        c.row("LOST", new int[] {x.rate(2, 5), x.rate(2, 4), x.rate(2, -1)}, 1, 0, 1);
    }

    /** While the EXIT is SHUT all gets full and one is LOST in each TICK: that is ahead of t, and isn't counted. */
    @Says(in = "Terms 3", value = "RATE: in d such TICKS how many are TAKEN (at an EXIT, of a SIDE), LOST (of a SIDE).")
    static void rateBehindTheGreatestT(Check c) {
        MergeBelts x = Check.of("belt 4;exit 1 1;ware 0;side 0 1 0 1;comes 0 0 1 0;");
        x.shut(0, 495);
        again(c, x, 499, 1);
        c.row("TAKEN and LOST", new int[] {x.rate(0, -1), x.rate(2, -1)}, 1, 0);
        x.shut(0, 496);
        c.row("a TICK more", new int[] {x.rate(0, -1), x.rate(2, -1)}, -1, -1);
    }
}
