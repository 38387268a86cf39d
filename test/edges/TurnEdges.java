/** Boundary cases of 'Terms' 2, (e) of a TICK: TURNS, PLACES WITHIN REACH, RANK. */
final class TurnEdges {
    private TurnEdges() {
    }

    @Says(in = "Terms 2", value = "of SIDES for which more ITEMS wait than PLACES are RESERVED")
    static void noneWaits(Check c) {
        MergeBelts x = Check.of("belt 6;exit 4 1;ware 0;side 3 9 5 1;");
        x.push(0, 0);
        x.ticks(1);
        c.due("it went, so none waits", x.side(0, 4), 0);
        c.due("none is RESERVED", x.count(7), 0);
    }

    @Says(in = "Terms 2", value = "of SIDES for which more ITEMS wait than PLACES are RESERVED")
    static void asManyAsWait(Check c) {
        MergeBelts x = Check.of("belt 6;exit 4 1;ware 0;side 3 9 5 1;");
        Check.push(x, 3, 0, 0);
        x.ticks(1);
        c.due("two wait", x.side(0, 4), 2);
        c.row("for whom", Check.places(x, 4), -1, 0, 0, -1, -1, -1);
    }

    @Says(in = "Terms 2", value = "of SIDES for which more ITEMS wait than PLACES are RESERVED")
    static void oneMoreWaits(Check c) {
        MergeBelts x = Check.of("belt 6;exit 4 1;ware 0;side 3 9 5 1;");
        Check.push(x, 3, 0, 0);
        x.ticks(1);
        x.push(0, 0);
        x.ticks(1);
        c.due("two wait", x.side(0, 4), 2);
        c.row("one was used, one is RESERVED more", Check.places(x, 4), -1, 0, 0, -1, -1, -1);
    }

    @Says(in = "Terms 2", value = "and that have a free PLACE within REACH")
    static void noReach(Check c) {
        MergeBelts x = Check.of("belt 6;exit 4 1;ware 0;side 3 9 0 1;");
        Check.push(x, 9, 0, 0);
        x.ticks(1);
        c.due("none is RESERVED", x.count(7), 0);
    }

    @Says(in = "Terms 2", value = "and that have a free PLACE within REACH")
    static void aReachOf1(Check c) {
        MergeBelts x = Check.of("belt 6;exit 4 1;ware 0;side 3 9 1 1;");
        Check.push(x, 9, 0, 0);
        x.ticks(1);
        c.row("the one that comes to it next", Check.places(x, 4), -1, -1, 0, -1, -1, -1);
    }

    @Says(in = "Terms 2", value = "and that have a free PLACE within REACH")
    static void allWithinReachAreTaken(Check c) {
        MergeBelts x = Check.of("belt 6;exit 5 1;ware 0;side 3 9 1 1;side 2 9 0 1;");
        Check.push(x, 2, 0, 0);
        x.push(1, 0);
        x.ticks(1);
        c.due("the one PLACE has an ITEM", x.place(2, 0), 0);
        c.due("none is RESERVED", x.count(7), 0);
        c.due("one waits", x.side(0, 4), 1);
    }

    @Says(in = "Terms 2", value = "and that have a free PLACE within REACH")
    static void theFarthestWithinReach(Check c) {
        MergeBelts x = Check.of("belt 6;exit 5 1;ware 0;side 3 9 2 1;side 2 9 0 1;");
        Check.push(x, 2, 0, 0);
        x.push(1, 0);
        x.ticks(1);
        c.row("behind the ITEM at PLACE 2", Check.places(x, 4), -1, 0, -1, -1, -1, -1);
    }

    @Says(in = "Terms 2", value = "1 to REACH PLACES ahead of it against the way of THE BELT (1: the one that comes to it next)")
    static void aheadOfTheFirstPlaceIsTheLast(Check c) {
        MergeBelts x = Check.of("belt 6;exit 3 1;ware 0;side 0 9 1 1;");
        Check.push(x, 9, 0, 0);
        x.ticks(1);
        c.row("for whom", Check.places(x, 4), -1, -1, -1, -1, -1, 0);
    }

    @Says(in = "Terms 2", value = "1 to REACH PLACES ahead of it against the way of THE BELT (1: the one that comes to it next)")
    static void aReachOfAllOthers(Check c) {
        MergeBelts x = Check.of("belt 6;exit 3 1;ware 0;side 2 9 5 1;");
        Check.push(x, 9, 0, 0);
        x.ticks(1);
        c.row("all but its own", Check.places(x, 4), 0, 0, -1, 0, 0, 0);
        c.due("held", x.side(0, 5), 5);
    }

    @Says(in = "Terms 2", value = "1 to REACH PLACES ahead of it against the way of THE BELT (1: the one that comes to it next)")
    static void aReachOfOneLessThanAllOthers(Check c) {
        MergeBelts x = Check.of("belt 6;exit 3 1;ware 0;side 2 9 4 1;");
        Check.push(x, 9, 0, 0);
        x.ticks(1);
        c.row("all but its own and the next", Check.places(x, 4), 0, 0, -1, -1, 0, 0);
    }

    @Says(in = "Terms 2", value = "the nearest such PLACE is RESERVED for it")
    static void theNearestOfAll(Check c) {
        MergeBelts x = Check.of("belt 6;exit 4 1;ware 0;side 3 9 5 1;");
        Check.push(x, 2, 0, 0);
        x.ticks(1);
        c.row("for whom", Check.places(x, 4), -1, -1, 0, -1, -1, -1);
    }

    @Says(in = "Terms 2", value = "that with the greatest RANK (of several the least)")
    static void theLeastOfSeveral(Check c) {
        MergeBelts x = Check.of("belt 8;exit 7 1;ware 0;side 5 9 2 1;side 4 9 1 1;turns 7;");
        Check.push(x, 2, 0, 0);
        Check.push(x, 2, 1, 0);
        x.ticks(1);
        c.due("PLACE 3, which both might have, is for", x.place(3, 4), 0);
        MergeBelts y = Check.of("belt 8;exit 7 1;ware 0;side 4 9 1 1;side 5 9 2 1;turns 7;");
        Check.push(y, 2, 0, 0);
        Check.push(y, 2, 1, 0);
        y.ticks(1);
        c.due("told the other way round", y.place(3, 4), 0);
    }

    @Says(in = "Terms 2", value = "that with the greatest RANK (of several the least)")
    static void ranksBelow0(Check c) {
        MergeBelts x = Check.of("belt 8;exit 7 1;ware 0;side 5 9 2 9;side 4 9 1 8;turns 0-share;");
        Check.push(x, 2, 0, 0);
        Check.push(x, 2, 1, 0);
        x.ticks(1);
        c.due("RANK of SIDE 0", x.side(0, 9), -9);
        c.due("RANK of SIDE 1", x.side(1, 9), -8);
        c.due("PLACE 3 is for the greater one", x.place(3, 4), 1);
    }

    /** Two that take turns till nothing is free: 6, 5, 4 and so on round. */
    @Says(in = "Terms 2", value = "again and again, until there is none")
    static void untilNoPlaceIsFree(Check c) {
        MergeBelts x = Check.of("belt 8;exit 3 1;ware 0;side 7 9 7 1;side 0 9 7 1;");
        Check.push(x, 9, 0, 0);
        Check.push(x, 9, 1, 0);
        x.ticks(1);
        c.due("none is free", x.count(8), 0);
        c.row("by turns", Check.places(x, 4), -1, 1, 0, 1, 0, 1, 0, -1);
        c.due("credits", x.side(0, 6) * 10 + x.side(1, 6), 0);
    }

    @Says(in = "Terms 2", value = "again and again, until there is none")
    static void untilEnoughAreReserved(Check c) {
        MergeBelts x = Check.of("belt 8;exit 3 1;ware 0;side 7 9 7 1;side 0 9 7 1;");
        Check.push(x, 3, 0, 0);
        Check.push(x, 2, 1, 0);
        x.ticks(1);
        c.row("two and one", Check.places(x, 4), -1, -1, -1, -1, 0, 1, 0, -1);
    }

    @Says(in = "Terms 2", value = "RANK: 'turns', or, without, credit.")
    static void withoutTurns(Check c) {
        MergeBelts x = Check.of("belt 8;exit 7 1;ware 0;side 5 9 2 9;side 4 9 1 8;");
        Check.push(x, 3, 0, 0);
        Check.push(x, 3, 1, 0);
        x.ticks(1);
        c.row("PLACE 3 by number", Check.places(x, 4), -1, -1, -1, 0, -1, -1, -1, -1);
        c.row("credits are RANKS", new int[] {x.side(0, 9), x.side(1, 9)}, -8, 8);
    }

    @Says(in = "Terms 2", value = "Of a SIDE: credit (0 at first)")
    static void creditAtFirst(Check c) {
        MergeBelts x = Check.of("belt 8;side 5 9 2 9;");
        c.due("side(0, 6)", x.side(0, 6), 0);
    }

    @Says(in = "Terms 2", value = "each SIDE that might have had one then (all of which the one was chosen) gets its SHARE more")
    static void theOnlyOneThatMight(Check c) {
        MergeBelts x = Check.of("belt 8;exit 7 1;ware 0;side 5 9 4 9;side 2 9 0 5;");
        Check.push(x, 9, 0, 0);
        Check.push(x, 9, 1, 0);
        x.ticks(1);
        c.due("two ahead of SIDE 1's ITEM and one behind it", x.side(0, 5), 3);
        c.row("its SHARE more and less; of no REACH none", new int[] {x.side(0, 6), x.side(1, 6)}, 0, 0);
    }

    @Says(in = "Terms 2", value = "each SIDE that might have had one then (all of which the one was chosen) gets its SHARE more")
    static void whoHasEnoughMightNot(Check c) {
        MergeBelts x = Check.of("belt 8;exit 3 1;ware 0;side 7 9 7 4;side 0 9 7 5;");
        Check.push(x, 3, 0, 0);
        Check.push(x, 2, 1, 0);
        x.ticks(1);
        c.row("both twice, SIDE 0 at first, SIDE 1 then, and SIDE 0 alone", new int[] {x.side(0, 6), x.side(1, 6)}, 4 - 9 + 4, 5 + 5 - 9);
    }

    @Says(in = "Terms 2", value = "and the one that was chosen all these SHARES together less")
    static void theGreatestShares(Check c) {
        MergeBelts x = Check.of("belt 40;exit 39 1;ware 0;side 10 9 1 9;side 11 9 2 9;side 12 9 3 9;side 13 9 4 9;side 14 9 5 9;side 15 9 6 9;");
        for (int side = 0; side < 6; side++) {
            Check.push(x, 2, side, 0);
        }
        x.ticks(1);
        c.due("PLACE 9, which all might have, is for", x.place(9, 4), 0);
        for (int side = 0; side < 6; side++) {
            c.due("credit of SIDE " + side, x.side(side, 6), side == 0 ? 9 - 54 : 9);
        }
    }

    @Says(in = "Terms 2", value = "late: TICKS since the ITEM that waits first came (0 without; of one that came in this TICK 0)")
    static void lateOfNobody(Check c) {
        MergeBelts x = Check.of("belt 4;exit 2 1;ware 0;side 0 9 0 1;turns late;");
        x.ticks(9);
        c.row("late, RANK", new int[] {x.side(0, 7), x.side(0, 9)}, 0, 0);
        x.push(0, 0);
        x.ticks(1);
        c.row("behind the one that went", new int[] {x.side(0, 4), x.side(0, 7), x.side(0, 9)}, 0, 0, 0);
    }

    @Says(in = "Terms 2", value = "late: TICKS since the ITEM that waits first came (0 without; of one that came in this TICK 0)")
    static void lateOfOneThatCameInThisTick(Check c) {
        MergeBelts x = Check.of("belt 4;exit 2 1;ware 0;side 0 9 0 1;turns late;");
        x.ticks(7);
        x.push(0, 0);
        c.row("pushed now", new int[] {x.side(0, 7), x.side(0, 9)}, 0, 0);
        x.push(0, 0);
        x.ticks(1);
        c.row("a TICK later", new int[] {x.side(0, 7), x.side(0, 9)}, 1, 1);
    }

    /** Both might have PLACE 3: by late of SIDE 1, where SIDE 0 has a RANK of 0. */
    private static MergeBelts byLateOfSide1() {
        return Check.of("belt 8;exit 7 1;ware 0;side 5 9 2 1;side 4 9 1 1;turns late*side;");
    }

    @Says(in = "Terms 2", value = "late: TICKS since the ITEM that waits first came (0 without; of one that came in this TICK 0)")
    static void turnsOfOneThatCameInThisTick(Check c) {
        MergeBelts x = byLateOfSide1();
        Check.push(x, 2, 0, 0);
        Check.push(x, 2, 1, 0);
        x.ticks(1);
        c.due("two RANKS of 0", x.place(3, 4), 0);
    }

    @Says(in = "Terms 2", value = "late: TICKS since the ITEM that waits first came (0 without; of one that came in this TICK 0)")
    static void turnsOfOneThatCameATickAhead(Check c) {
        MergeBelts x = byLateOfSide1();
        x.change(1, 1, 0);
        Check.push(x, 3, 1, 0);
        x.ticks(1);
        x.change(1, 1, 1);
        Check.push(x, 2, 0, 0);
        x.ticks(1);
        c.row("who waits", new int[] {x.side(0, 4), x.side(1, 4)}, 2, 1);
        c.due("a RANK of 1", x.place(3, 4), 1);
    }

    @Says(in = "Terms 2", value = "late: TICKS since the ITEM that waits first came")
    static void lateOfTheFirstNotOfTheOthers(Check c) {
        MergeBelts x = Check.of("belt 4;exit 2 1;ware 0;side 0 9 0 1;side 3 9 0 1;comes 1 0 1 0;");
        x.push(0, 0);
        x.ticks(1);
        x.push(0, 0);
        x.ticks(3);
        x.push(0, 0);
        c.due("three TICKS", x.side(0, 7), 3);
    }

    @Says(in = "Terms 2", value = "urgent: how many URGENT ITEMS wait")
    static void noneAndAllAreUrgent(Check c) {
        MergeBelts x = Check.of("belt 4;exit 2 1;ware 0;ware 0 urgent;side 0 20 0 1;side 1 20 0 1;side 2 20 0 1;turns urgent;");
        Check.push(x, 20, 0, 0);
        Check.push(x, 20, 1, 1);
        c.row("of each SIDE", new int[] {x.side(0, 8), x.side(1, 8), x.side(2, 8)}, 0, 20, 0);
        c.row("RANKS", new int[] {x.side(0, 9), x.side(1, 9), x.side(2, 9)}, 0, 20, 0);
        x.ticks(1);
        c.due("not of those that went", x.side(1, 8), 19);
    }

    @Says(in = "Terms 2", value = "held: how many PLACES are RESERVED for it")
    static void heldTillItIsUsed(Check c) {
        MergeBelts x = Check.of("belt 6;exit 4 1;ware 0;side 3 9 5 1;turns held;");
        c.due("none at first", x.side(0, 5), 0);
        Check.push(x, 3, 0, 0);
        x.ticks(1);
        c.row("two", new int[] {x.side(0, 5), x.side(0, 9)}, 2, 2);
        x.ticks(2);
        c.row("none", new int[] {x.side(0, 5), x.side(0, 9)}, 0, 0);
    }
}
