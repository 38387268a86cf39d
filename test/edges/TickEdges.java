/** Boundary cases of 'Terms' 2, (a) to (d) of a TICK, THE LOG and JAM. */
final class TickEdges {
    private TickEdges() {
    }

    @Says(in = "Terms 2", value = "(a) for each COMING that is due, in their order")
    static void theFirstOfTwoThatComeAtOnce(Check c) {
        MergeBelts x = Check.of("belt 4;exit 2 1;ware 0;ware 0;side 0 1 0 1;comes 0 1 5 0;comes 0 0 5 0;");
        x.ticks(1);
        c.due("the one of COMING 0 went", x.place(0, 0), 1);
        c.due("the one of COMING 1 is LOST", x.side(0, 12), 1);
    }

    @Says(in = "Terms 2", value = "an ITEM comes behind all that wait at its SIDE")
    static void behindAllThatWait(Check c) {
        MergeBelts x = Check.of("belt 4;exit 2 1;ware 0;ware 0;side 0 4 0 1;comes 0 1 5 0;");
        Check.push(x, 3, 0, 0);
        x.ticks(1);
        c.row("who waits", new int[] {x.waiting(0, 0), x.waiting(0, 1), x.waiting(0, 2)}, 0, 0, 1);
    }

    @Says(in = "Terms 2", value = "if ROOM ITEMS wait there, it is LOST")
    static void oneLessThanRoomWaits(Check c) {
        MergeBelts x = Check.of("belt 4;exit 2 1;ware 0;side 0 2 0 1;comes 0 0 5 0;");
        x.push(0, 0);
        x.ticks(1);
        c.due("none is LOST", x.side(0, 12), 0);
        c.due("one waits, one went", x.side(0, 4) + x.side(0, 10), 2);
    }

    @Says(in = "Terms 2", value = "if ROOM ITEMS wait there, it is LOST")
    static void roomItemsWait(Check c) {
        MergeBelts x = Check.of("belt 4;exit 2 1;ware 0;side 0 2 0 1;comes 0 0 5 0;");
        Check.push(x, 2, 0, 0);
        x.ticks(1);
        c.due("LOST, though one went on in the same TICK", x.side(0, 12), 1);
        c.due("one waits", x.side(0, 4), 1);
        c.due("one went", x.side(0, 10), 1);
    }

    @Says(in = "Terms 2", value = "if ROOM ITEMS wait there, it is LOST")
    static void moreThanRoomWait(Check c) {
        MergeBelts x = Check.of("belt 4;exit 2 1;ware 0;side 0 3 0 1;comes 0 0 5 0;");
        Check.push(x, 3, 0, 0);
        x.change(0, 0, 1);
        x.ticks(1);
        c.due("LOST", x.side(0, 12), 1);
        c.due("who waits", x.side(0, 4), 2);
    }

    @Says(in = "Terms 2", value = "if ROOM ITEMS wait there, it is LOST")
    static void roomOfTwentyIsFull(Check c) {
        MergeBelts x = Check.of("belt 4;exit 2 1;ware 0;side 0 20 0 1;comes 0 0 1 0;side 3 1 0 1;comes 1 0 1 0;");
        x.ticks(21);
        c.due("SIDE 1 keeps PLACE 0 from TICK 1 on", x.side(0, 10), 1);
        c.due("twenty wait", x.side(0, 4), 20);
        c.due("none is LOST", x.side(0, 12), 0);
        x.ticks(1);
        c.due("the 21st is LOST", x.side(0, 12), 1);
        c.due("twenty wait still", x.side(0, 4), 20);
    }

    @Says(in = "Terms 2", value = "goes to the next one, from N - 1 to 0 (a ROUND more for an ITEM that does)")
    static void anItemFromTheLastPlaceToTheFirst(Check c) {
        MergeBelts x = Check.of("belt 4;exit 1 1;ware 0;side 3 2 0 1;");
        x.push(0, 0);
        x.shut(0, 99);
        x.ticks(1);
        c.row("ROUNDS at PLACE 3", Check.places(x, 2), -1, -1, -1, 0);
        x.ticks(1);
        c.row("ROUNDS at PLACE 0", Check.places(x, 2), 1, -1, -1, -1);
        x.ticks(3);
        c.row("ROUNDS at PLACE 3 again", Check.places(x, 2), -1, -1, -1, 1);
        x.ticks(1);
        c.row("ROUNDS at PLACE 0 again", Check.places(x, 2), 2, -1, -1, -1);
    }

    @Says(in = "Terms 2", value = "goes to the next one, from N - 1 to 0 (a ROUND more for an ITEM that does)")
    static void anItemThatStartsAtTheFirstPlace(Check c) {
        MergeBelts x = Check.of("belt 4;exit 3 1;ware 0;side 0 2 0 1;");
        x.push(0, 0);
        x.ticks(1);
        c.due("no ROUND yet", x.place(0, 2), 0);
        c.due("TAKEN", x.ticks(3), 1);
        c.due("ROUNDS", x.log(0, 6), 0);
    }

    @Says(in = "Terms 2", value = "(RESERVED ones, too)")
    static void aGapFromTheLastPlaceToTheFirst(Check c) {
        MergeBelts x = Check.of("belt 6;exit 3 1;ware 0;side 1 3 3 1;");
        Check.push(x, 3, 0, 0);
        x.ticks(1);
        c.row("RESERVED", Check.places(x, 4), 0, -1, -1, -1, -1, 0);
        x.ticks(1);
        c.row("one TICK more", Check.places(x, 4), 0, -1, -1, -1, -1, -1);
        c.row("WARES", Check.places(x, 0), -1, 0, 0, -1, -1, -1);
        c.row("no ROUND of a gap", Check.places(x, 2), -1, 0, 0, -1, -1, -1);
    }

    @Says(in = "Terms 2", value = "an ITEM at its PLACE whose WARE goes there is TAKEN")
    static void anItemThatGoesToAnotherExit(Check c) {
        MergeBelts x = Check.of("belt 6;exit 2 1;exit 4 1;ware 1;side 1 1 0 1;");
        x.push(0, 0);
        c.due("it passes EXIT 0", x.ticks(3), 0);
        c.due("and is TAKEN at EXIT 1", x.ticks(1), 1);
        c.due("log(0, 1)", x.log(0, 1), 1);
    }

    @Says(in = "Terms 2", value = "an ITEM at its PLACE whose WARE goes there is TAKEN")
    static void anItemThatStartsAtItsExit(Check c) {
        MergeBelts x = Check.of("belt 4;exit 0 1;ware 0;side 0 1 0 1;");
        x.push(0, 0);
        c.due("not at once", x.ticks(1), 0);
        c.due("not a PLACE ahead of it", x.ticks(3), 0);
        c.due("but all round", x.ticks(1), 1);
        c.due("RIDE", x.log(0, 5), 4);
        c.due("ROUNDS", x.log(0, 6), 1);
    }

    @Says(in = "Terms 2", value = "(c) At each EXIT, by numbers")
    static void twoAreTakenInOneTick(Check c) {
        MergeBelts x = Check.of("belt 6;exit 4 1;exit 1 1;ware 0;ware 1;side 3 1 0 1;side 0 1 0 1;");
        x.push(0, 0);
        x.push(1, 1);
        c.due("both in TICK 1", x.ticks(2), 2);
        c.row("EXIT 1 is the latest", new int[] {x.log(0, 0), x.log(0, 1), x.log(1, 0), x.log(1, 1)}, 1, 1, 1, 0);
    }

    @Says(in = "Terms 2", value = "(c) At each EXIT, by numbers")
    static void aFullLogWhereTwoAreTakenInOneTick(Check c) {
        MergeBelts x = Check.of("belt 6;exit 4 1;exit 1 1;ware 0;ware 1;side 3 1 0 1;side 0 1 0 1;comes 0 0 1 0;comes 1 1 1 0;");
        c.due("two in each of TICKS 1 to 21", x.ticks(22), 42);
        c.due("rows", x.count(12), 40);
        c.row("the latest", new int[] {x.log(0, 0), x.log(0, 1), x.log(1, 0), x.log(1, 1)}, 21, 1, 21, 0);
        c.row("the oldest", new int[] {x.log(38, 0), x.log(38, 1), x.log(39, 0), x.log(39, 1)}, 2, 1, 2, 0);
    }

    @Says(in = "Terms 2", value = "if the EXIT isn't SHUT")
    static void shutForTheTickInWhichItComes(Check c) {
        MergeBelts x = Check.of("belt 4;exit 2 1;ware 0;side 1 2 0 1;");
        x.push(0, 0);
        x.ticks(1);
        x.shut(0, 1);
        c.due("not TAKEN", x.ticks(1), 0);
        c.due("the EXIT is open again", x.exit(0, 2), 0);
        c.due("it goes on", x.ticks(3), 0);
        c.due("and is TAKEN when it comes again", x.ticks(1), 1);
        c.due("TICK", x.log(0, 0), 5);
    }

    @Says(in = "Terms 2", value = "if the EXIT isn't SHUT")
    static void shutTillTheTickAheadOfThat(Check c) {
        MergeBelts x = Check.of("belt 4;exit 2 1;ware 0;side 1 2 0 1;");
        x.push(0, 0);
        x.shut(0, 1);
        c.due("SHUT in TICK 0 alone, TAKEN in TICK 1", x.ticks(2), 1);
    }

    @Says(in = "Terms 2", value = "PACE TICKS or more have gone since the TICK in which it took one")
    static void paceTicksHaveGone(Check c) {
        MergeBelts x = Check.of("belt 4;exit 2 3;ware 0;side 1 2 0 1;");
        x.push(0, 0);
        c.due("TAKEN in TICK 1", x.ticks(3), 1);
        x.push(0, 0);
        c.due("the next one comes there in TICK 4", x.ticks(2), 1);
        c.due("TICK", x.log(0, 0), 4);
    }

    @Says(in = "Terms 2", value = "PACE TICKS or more have gone since the TICK in which it took one")
    static void oneTickLessHasGone(Check c) {
        MergeBelts x = Check.of("belt 4;exit 2 3;ware 0;side 1 2 0 1;");
        x.push(0, 0);
        c.due("TAKEN in TICK 1", x.ticks(2), 1);
        x.push(0, 0);
        c.due("the next one comes there in TICK 3", x.ticks(5), 0);
        c.due("and again in TICK 7", x.ticks(1), 1);
        c.due("ROUNDS", x.log(0, 6), 1);
    }

    @Says(in = "Terms 2", value = "PACE TICKS or more have gone since the TICK in which it took one")
    static void withAPaceOf1InEachTick(Check c) {
        MergeBelts x = Check.of("belt 4;exit 2 1;ware 0;side 1 9 0 1;");
        Check.push(x, 3, 0, 0);
        c.due("none in TICK 0", x.ticks(1), 0);
        for (int k = 0; k < 3; k++) {
            c.due("one in each", x.ticks(1), 1);
        }
    }

    @Says(in = "Terms 2", value = "(0 is the first TICK in which it may; of none ever at once)")
    static void anExitThatNeverTookOne(Check c) {
        MergeBelts x = Check.of("belt 4;exit 2 9;ware 0;side 1 1 0 1;");
        c.due("in the next TICK, which is TICK 0", x.exit(0, 5), 0);
        x.push(0, 0);
        c.due("at once, whatever its PACE", x.ticks(2), 1);
        c.due("then PACE TICKS behind TICK 1", x.exit(0, 5), 8);
    }

    @Says(in = "Terms 2", value = "(d) At each SIDE, by numbers: if its PLACE is free")
    static void onAFreePlaceInTheTickInWhichItComes(Check c) {
        MergeBelts x = Check.of("belt 4;exit 2 1;ware 0;side 0 1 0 1;comes 0 0 9 0;");
        x.ticks(1);
        c.due("it is there", x.place(0, 0), 0);
        c.due("nobody waits", x.side(0, 4), 0);
    }

    @Says(in = "Terms 2", value = "(d) At each SIDE, by numbers: if its PLACE is free")
    static void aPlaceThatAnExitMadeFreeInThisTick(Check c) {
        MergeBelts x = Check.of("belt 4;exit 0 1;ware 0;side 0 9 0 1;");
        Check.push(x, 5, 0, 0);
        x.ticks(4);
        c.due("all are full", x.count(8), 0);
        c.due("one is TAKEN", x.ticks(1), 1);
        c.due("and the fifth goes there", x.side(0, 10), 5);
    }

    @Says(in = "Terms 2", value = "(d) At each SIDE, by numbers: if its PLACE is free")
    static void aPlaceThatIsNotFree(Check c) {
        MergeBelts x = Check.of("belt 4;exit 2 1;ware 0;side 0 2 0 1;side 1 2 0 1;");
        x.push(0, 0);
        x.ticks(1);
        x.push(1, 0);
        x.ticks(1);
        c.due("the ITEM that passes stays", x.place(1, 1), 0);
        c.due("who waits stays", x.side(1, 4), 1);
    }

    @Says(in = "Terms 2", value = "or RESERVED for it: the ITEM that waits first goes there")
    static void aPlaceThatIsReservedForAnother(Check c) {
        MergeBelts x = Check.of("belt 8;exit 7 1;ware 0;side 4 4 3 1;side 2 4 0 1;");
        Check.push(x, 3, 0, 0);
        x.ticks(1);
        x.push(1, 0);
        x.ticks(1);
        c.row("the gap that was at PLACE 2 is RESERVED still", Check.places(x, 4), -1, -1, -1, 0, -1, -1, -1, -1);
        c.due("SIDE 1 used a free one", x.side(1, 10), 1);
        MergeBelts y = Check.of("belt 8;exit 7 1;ware 0;side 4 4 3 1;side 2 4 0 1;");
        Check.push(y, 4, 0, 0);
        y.ticks(1);
        y.push(1, 0);
        y.ticks(1);
        c.row("a gap passes SIDE 1", Check.places(y, 4), -1, -1, 0, 0, -1, -1, -1, -1);
        c.due("SIDE 1 waits", y.side(1, 4), 1);
    }

    @Says(in = "Terms 2", value = "or RESERVED for it: the ITEM that waits first goes there")
    static void onlyTheFirstGoes(Check c) {
        MergeBelts x = Check.of("belt 6;exit 5 1;ware 0;ware 0;side 3 4 2 1;");
        x.push(0, 0);
        x.push(0, 1);
        x.push(0, 0);
        x.ticks(2);
        c.row("in their order", Check.places(x, 0), -1, -1, -1, 1, 0, -1);
        c.due("the third waits", x.side(0, 4), 1);
        c.due("for the one that is RESERVED", x.side(0, 5), 1);
    }

    /** SIDE 0 may go where EXIT 0 takes an ITEM, so that the gap behind that one comes for nobody. */
    @Says(in = "Terms 2", value = "(if none waits, what is RESERVED for it there becomes free)")
    static void aGapForNobody(Check c) {
        MergeBelts x = Check.of("belt 6;exit 3 1;exit 5 1;ware 0;ware 1;side 3 3 2 1;side 1 3 0 1;");
        x.push(1, 0);
        x.ticks(1);
        Check.push(x, 2, 0, 1);
        x.ticks(1);
        c.row("RESERVED behind the ITEM at PLACE 2", Check.places(x, 4), -1, 0, -1, -1, -1, -1);
        x.ticks(1);
        c.due("both went", x.side(0, 10), 2);
        c.due("nobody waits", x.side(0, 4), 0);
        c.due("one is RESERVED still", x.side(0, 5), 1);
        c.row("at PLACE 2", Check.places(x, 4), -1, -1, 0, -1, -1, -1);
        x.ticks(1);
        c.due("none is", x.side(0, 5) + x.count(7), 0);
        c.row("it is free", new int[] {x.place(3, 0), x.place(3, 4)}, -1, -1);
    }

    @Says(in = "Terms 2", value = "TICK is 1 more then")
    static void oneTick(Check c) {
        MergeBelts x = new MergeBelts();
        x.ticks(1);
        c.due("count(5)", x.count(5), 1);
    }

    @Says(in = "Terms 2", value = "each EXIT that is SHUT is so for a TICK less")
    static void shutForOneTickAndForNone(Check c) {
        MergeBelts x = Check.of("belt 4;exit 0 1;exit 1 1;");
        x.shut(0, 2);
        x.shut(1, 1);
        x.ticks(1);
        c.row("a TICK less", new int[] {x.exit(0, 2), x.exit(1, 2)}, 1, 0);
        x.ticks(1);
        c.row("none less than 0", new int[] {x.exit(0, 2), x.exit(1, 2)}, 0, 0);
        x.ticks(500);
        c.row("none less than 0", new int[] {x.exit(0, 2), x.exit(1, 2)}, 0, 0);
    }

    @Says(in = "Terms 2", value = "An ITEM's WAIT: TICKS from when it came to when it went to THE BELT")
    static void aWaitOf0AndOf1(Check c) {
        MergeBelts x = Check.of("belt 4;exit 1 1;ware 0;side 0 2 0 1;comes 0 0 9 0;comes 0 0 9 0;");
        x.ticks(1);
        c.due("the longest", x.side(0, 13), 0);
        x.ticks(1);
        c.due("the longest", x.side(0, 13), 1);
        x.ticks(1);
        c.row("WAITS", new int[] {x.log(1, 4), x.log(0, 4)}, 0, 1);
    }

    @Says(in = "Terms 2", value = "its RIDE: from then to when it was TAKEN")
    static void theShortestRide(Check c) {
        MergeBelts x = Check.of("belt 4;exit 1 1;ware 0;side 0 2 0 1;");
        x.ticks(7);
        x.push(0, 0);
        x.ticks(1);
        c.due("TICKS since it went", x.place(0, 3), 1);
        x.ticks(1);
        c.row("TICK, WAIT, RIDE", new int[] {x.log(0, 0), x.log(0, 4), x.log(0, 5)}, 8, 0, 1);
    }

    @Says(in = "Terms 2", value = "its RIDE: from then to when it was TAKEN")
    static void aRideOfManyRounds(Check c) {
        MergeBelts x = Check.of("belt 4;exit 1 1;ware 0;side 0 2 0 1;");
        x.ticks(3);
        x.push(0, 0);
        x.shut(0, 999);
        x.ticks(500);
        x.ticks(499);
        c.due("TICKS since it went", x.place(2, 3), 999);
        x.ticks(4);
        c.row("TICK, RIDE, ROUNDS", new int[] {x.log(0, 0), x.log(0, 5), x.log(0, 6)}, 1004, 1001, 250);
    }

    @Says(in = "Terms 2", value = "TICK, EXIT, WARE, SIDE, WAIT, RIDE, ROUNDS.")
    static void theLastExitWareAndSideInTheLog(Check c) {
        MergeBelts x = Check.of("belt 9;exit 0 1;exit 1 1;exit 2 1;exit 3 1;exit 4 1;exit 8 1;" + "ware 0;".repeat(7) + "ware 5;"
            + "side 0 1 0 1;side 1 1 0 1;side 2 1 0 1;side 3 1 0 1;side 4 1 0 1;side 5 2 0 1;");
        Check.push(x, 2, 5, 7);
        x.ticks(5);
        int[] row = new int[7];
        for (int what = 0; what < 7; what++) {
            row[what] = x.log(0, what);
        }
        c.row("log(0)", row, 4, 5, 7, 5, 1, 3, 0);
    }

    @Says(in = "Terms 2", value = "THE LOG: the latest 40 that were TAKEN")
    static void noneWasTaken(Check c) {
        MergeBelts x = Check.of("belt 4;exit 1 1;ware 0;side 0 1 0 1;comes 0 0 1 0;");
        x.ticks(1);
        c.due("rows", x.count(12), 0);
        c.noSuch("log(0, 0)", () -> x.log(0, 0));
    }

    @Says(in = "Terms 2", value = "THE LOG: the latest 40 that were TAKEN")
    static void fortyWereTaken(Check c) {
        MergeBelts x = Check.of("belt 4;exit 1 1;ware 0;side 0 1 0 1;comes 0 0 1 0;");
        c.due("TAKEN in TICKS 1 to 40", x.ticks(41), 40);
        c.due("rows", x.count(12), 40);
        for (int ago = 0; ago < 40; ago++) {
            c.due("TICK of log(" + ago + ", 0)", x.log(ago, 0), 40 - ago);
        }
        c.noSuch("log(40, 0)", () -> x.log(40, 0));
    }

    @Says(in = "Terms 2", value = "THE LOG: the latest 40 that were TAKEN")
    static void fortyOneWereTaken(Check c) {
        MergeBelts x = Check.of("belt 4;exit 1 1;ware 0;side 0 1 0 1;comes 0 0 1 0;");
        c.due("TAKEN in TICKS 1 to 41", x.ticks(42), 41);
        c.due("rows", x.count(12), 40);
        for (int ago = 0; ago < 40; ago++) {
            c.due("TICK of log(" + ago + ", 0)", x.log(ago, 0), 41 - ago);
        }
        c.noSuch("log(40, 0)", () -> x.log(40, 0));
        c.due("TAKEN ever", x.count(10), 41);
    }

    @Says(in = "Terms 2", value = "THE LOG: the latest 40 that were TAKEN")
    static void manyRoundsOfTheLog(Check c) {
        MergeBelts x = Check.of("belt 4;exit 1 1;ware 0;side 0 1 0 1;comes 0 0 1 0;");
        x.ticks(122);
        c.row("the latest and the oldest", new int[] {x.log(0, 0), x.log(1, 0), x.log(39, 0)}, 121, 120, 82);
    }

    /** Four of WARE 0 and then one of WARE 1 stand one behind another; EXIT 0 is SHUT. */
    private static MergeBelts jam(String places) {
        MergeBelts x = Check.of("belt 8;" + places + "ware 0;ware 1;side 0 9 0 1;");
        x.shut(0, 99);
        Check.push(x, 4, 0, 0);
        x.push(0, 1);
        return x;
    }

    @Says(in = "Terms 2", value = "(0, if its own one hasn't; all N at most)")
    static void noJamAPlaceAheadOfTheExit(Check c) {
        MergeBelts x = jam("exit 4 1;exit 7 1;");
        x.ticks(4);
        c.due("four stand up to the PLACE ahead of it", x.exit(0, 4), 0);
        x.ticks(1);
        c.due("and then at it", x.exit(0, 4), 4);
    }

    @Says(in = "Terms 2", value = "have ITEMS that go there")
    static void aJamEndsAtAnItemThatGoesElsewhere(Check c) {
        MergeBelts x = jam("exit 4 1;exit 7 1;");
        Check.push(x, 4, 0, 0);
        x.ticks(6);
        c.due("its own PLACE and two behind it, and then another WARE", x.exit(0, 4), 3);
        x.ticks(2);
        c.due("its own PLACE alone", x.exit(0, 4), 1);
        x.ticks(1);
        c.due("its own PLACE has another WARE", x.exit(0, 4), 0);
        c.due("no JAM at EXIT 1", x.exit(1, 4), 0);
    }

    @Says(in = "Terms 2", value = "how many PLACES side by side, from its own one against the way")
    static void aJamFromTheFirstPlaceBackToTheLast(Check c) {
        MergeBelts x = jam("exit 1 1;exit 5 1;");
        x.ticks(10);
        c.row("four from PLACE 1 on back, and one that was TAKEN", Check.places(x, 0), 0, 0, -1, -1, -1, -1, 0, 0);
        c.due("JAM", x.exit(0, 4), 4);
    }

    @Says(in = "Terms 2", value = "(0, if its own one hasn't; all N at most)")
    static void aJamOfAllPlaces(Check c) {
        MergeBelts x = Check.of("belt 4;exit 2 1;ware 0;side 0 9 0 1;");
        x.shut(0, 99);
        Check.push(x, 9, 0, 0);
        x.ticks(3);
        c.due("three of four", x.exit(0, 4), 3);
        x.ticks(1);
        c.due("all", x.exit(0, 4), 4);
        x.ticks(20);
        c.due("all still", x.exit(0, 4), 4);
    }
}
