/** Boundary cases of 'Terms' 1, THE BELT: the least and the most of each of its numbers, and how many there can be. */
final class BeltEdges {
    /** 23 bytes up to the WARE, 36 up to the SIDE. */
    private static final String EXIT_WARE = "belt 6;exit 0 1;ware 0;";
    private static final String EXIT_WARE_SIDE = EXIT_WARE + "side 0 1 0 1;";

    private BeltEdges() {
    }

    private static String lines(int n, String line) {
        StringBuilder s = new StringBuilder();
        for (int k = 0; k < n; k++) {
            s.append(line.replace("#", Integer.toString(k)));
        }
        return s.toString();
    }

    @Says(in = "Terms 1", value = "N PLACES (4 to 40)")
    static void fourPlaces(Check c) {
        c.stands("belt 4;", 4);
    }

    @Says(in = "Terms 1", value = "N PLACES (4 to 40)")
    static void threePlaces(Check c) {
        c.refused("belt ^3;", 2);
    }

    @Says(in = "Terms 1", value = "N PLACES (4 to 40)")
    static void noPlaces(Check c) {
        c.refused("belt ^0;", 2);
    }

    @Says(in = "Terms 1", value = "N PLACES (4 to 40)")
    static void fortyPlaces(Check c) {
        c.stands("belt 40;", 40);
    }

    @Says(in = "Terms 1", value = "N PLACES (4 to 40)")
    static void fortyOnePlaces(Check c) {
        c.refused("belt ^41;", 2);
    }

    @Says(in = "Terms 1", value = "in a ring, 0 to N - 1")
    static void theLastOfFortyPlaces(Check c) {
        MergeBelts x = Check.of("belt 40;exit 0 1;ware 0;side 39 1 0 1;");
        x.push(0, 0);
        x.ticks(1);
        c.due("place(39, 0)", x.place(39, 0), 0);
        c.noSuch("place(40, 0)", () -> x.place(40, 0));
        c.noSuch("place(-1, 0)", () -> x.place(-1, 0));
        c.due("it is at its EXIT in the next TICK", x.ticks(1), 1);
    }

    @Says(in = "Terms 1", value = "each has one ITEM, or is RESERVED for a SIDE, or is free")
    static void allFree(Check c) {
        MergeBelts x = Check.of("belt 4;");
        c.row("ITEMS, RESERVED, free", new int[] {x.count(6), x.count(7), x.count(8)}, 0, 0, 4);
    }

    @Says(in = "Terms 1", value = "each has one ITEM, or is RESERVED for a SIDE, or is free")
    static void allWithItems(Check c) {
        MergeBelts x = Check.of("belt 4;exit 0 1;ware 0;side 0 9 0 1;comes 0 0 1 0;");
        x.ticks(4);
        c.row("ITEMS, RESERVED, free", new int[] {x.count(6), x.count(7), x.count(8)}, 4, 0, 0);
    }

    @Says(in = "Terms 1", value = "each has one ITEM, or is RESERVED for a SIDE, or is free")
    static void noneIsFree(Check c) {
        MergeBelts x = Check.of("belt 4;exit 2 1;ware 0;side 0 9 3 1;");
        Check.push(x, 5, 0, 0);
        x.ticks(1);
        c.row("ITEMS, RESERVED, free", new int[] {x.count(6), x.count(7), x.count(8)}, 1, 3, 0);
    }

    @Says(in = "Terms 1", value = "EXITS 0 to at most 5")
    static void noExit(Check c) {
        MergeBelts x = Check.of("belt 4;side 0 1 0 1;");
        c.due("count(1)", x.count(1), 0);
        c.noSuch("exit(0, 0)", () -> x.exit(0, 0));
    }

    @Says(in = "Terms 1", value = "EXITS 0 to at most 5")
    static void exit5(Check c) {
        MergeBelts x = Check.of("belt 40;" + lines(6, "exit # 1;") + "ware 5;side 4 1 0 1;");
        c.due("count(1)", x.count(1), 6);
        c.due("exit(5, 0)", x.exit(5, 0), 5);
        c.noSuch("exit(6, 0)", () -> x.exit(6, 0));
        x.push(0, 0);
        c.due("it takes what goes there", x.ticks(2), 1);
        c.due("exit(5, 3)", x.exit(5, 3), 1);
    }

    @Says(in = "Terms 1", value = "4 one too many: the word of an EXIT")
    static void oneExitTooMany(Check c) {
        c.refused("belt 40;" + lines(6, "exit # 1;") + "^exit 6 1;", 4);
    }

    @Says(in = "Terms 1", value = "each at a PLACE of its own, with a PACE (1 to 9)")
    static void exitAtTheFirstPlace(Check c) {
        c.stands("belt 4;exit 0 1;", 4);
    }

    @Says(in = "Terms 1", value = "each at a PLACE of its own, with a PACE (1 to 9)")
    static void exitAtTheLastPlace(Check c) {
        c.stands("belt 4;exit 3 1;", 4);
    }

    @Says(in = "Terms 1", value = "each at a PLACE of its own, with a PACE (1 to 9)")
    static void exitBehindTheLastPlace(Check c) {
        c.refused("belt 4;exit ^4 1;", 2);
    }

    @Says(in = "Terms 1", value = "3 a PLACE of an EXIT at which there is an EXIT")
    static void twoExitsAtOnePlace(Check c) {
        c.refused("belt 4;exit 3 1;exit 0 1;exit ^3 1;", 3);
    }

    @Says(in = "Terms 1", value = "3 a PLACE of an EXIT at which there is an EXIT")
    static void exitWhereASideIs(Check c) {
        c.stands("belt 4;side 3 1 0 1;exit 3 1;", 4);
    }

    @Says(in = "Terms 1", value = "with a PACE (1 to 9)")
    static void pace1(Check c) {
        c.due("exit(0, 1)", Check.of("belt 4;exit 0 1;").exit(0, 1), 1);
    }

    @Says(in = "Terms 1", value = "with a PACE (1 to 9)")
    static void pace0(Check c) {
        c.refused("belt 4;exit 0 ^0;", 2);
    }

    @Says(in = "Terms 1", value = "with a PACE (1 to 9)")
    static void pace9(Check c) {
        c.due("exit(0, 1)", Check.of("belt 4;exit 0 9;").exit(0, 1), 9);
    }

    @Says(in = "Terms 1", value = "with a PACE (1 to 9)")
    static void pace10(Check c) {
        c.refused("belt 4;exit 0 ^10;", 2);
    }

    @Says(in = "Terms 1", value = "WARES 0 to at most 7")
    static void noWare(Check c) {
        MergeBelts x = Check.of("belt 4;exit 0 1;side 0 1 0 1;");
        c.due("count(2)", x.count(2), 0);
        c.due("push(0, 0)", x.push(0, 0), -1);
    }

    @Says(in = "Terms 1", value = "WARES 0 to at most 7")
    static void ware7(Check c) {
        MergeBelts x = Check.of("belt 4;exit 0 1;" + lines(7, "ware 0;") + "ware 0 urgent;side 3 1 0 1;");
        c.due("count(2)", x.count(2), 8);
        c.due("ware(7, 1)", x.ware(7, 1), 1);
        c.noSuch("ware(8, 0)", () -> x.ware(8, 0));
        c.due("push(0, 7)", x.push(0, 7), 1);
        x.ticks(2);
        c.due("ware(7, 4)", x.ware(7, 4), 1);
        c.due("log(0, 2)", x.log(0, 2), 7);
    }

    @Says(in = "Terms 1", value = "4 one too many: the word of an EXIT, a WARE")
    static void oneWareTooMany(Check c) {
        c.refused("belt 4;exit 0 1;" + lines(8, "ware 0;") + "^ware 0;", 4);
    }

    @Says(in = "Terms 1", value = "'ware' NUMBER {'urgent'}? (an EXIT told ahead)")
    static void wareOfTheLastExitToldAhead(Check c) {
        c.due("ware(0, 0)", Check.of("belt 4;exit 0 1;exit 1 1;ware 1;exit 2 1;").ware(0, 0), 1);
    }

    @Says(in = "Terms 1", value = "'ware' NUMBER {'urgent'}? (an EXIT told ahead)")
    static void wareOfAnExitToldBehind(Check c) {
        c.refused("belt 4;exit 0 1;exit 1 1;ware ^2;exit 2 1;", 2);
    }

    @Says(in = "Terms 1", value = "'ware' NUMBER {'urgent'}? (an EXIT told ahead)")
    static void wareWithoutAnyExit(Check c) {
        c.refused("belt 4;ware ^0;exit 0 1;", 2);
    }

    @Says(in = "Terms 1", value = "SIDES 0 to at most 5")
    static void noSide(Check c) {
        MergeBelts x = Check.of("belt 4;exit 0 1;ware 0;");
        c.due("count(3)", x.count(3), 0);
        c.noSuch("side(0, 0)", () -> x.side(0, 0));
    }

    @Says(in = "Terms 1", value = "SIDES 0 to at most 5")
    static void side5(Check c) {
        MergeBelts x = Check.of("belt 40;exit 6 1;ware 0;" + lines(6, "side # 1 0 1;"));
        c.due("count(3)", x.count(3), 6);
        c.due("side(5, 0)", x.side(5, 0), 5);
        c.noSuch("side(6, 0)", () -> x.side(6, 0));
        c.due("push(5, 0)", x.push(5, 0), 1);
        c.due("ticks(2)", x.ticks(2), 1);
        c.due("side(5, 11)", x.side(5, 11), 1);
    }

    @Says(in = "Terms 1", value = "4 one too many: the word of an EXIT, a WARE, a SIDE")
    static void oneSideTooMany(Check c) {
        c.refused("belt 40;" + lines(6, "side # 1 0 1;") + "^side 6 1 0 1;", 4);
    }

    @Says(in = "Terms 1", value = "SIDES 0 to at most 5: each at a PLACE of its own")
    static void sideAtTheFirstAndTheLastPlace(Check c) {
        MergeBelts x = Check.of("belt 6;side 5 1 0 1;side 0 1 0 1;");
        c.due("side(0, 0)", x.side(0, 0), 5);
        c.due("side(1, 0)", x.side(1, 0), 0);
    }

    @Says(in = "Terms 1", value = "SIDES 0 to at most 5: each at a PLACE of its own")
    static void sideBehindTheLastPlace(Check c) {
        c.refused("belt 6;side ^6 1 0 1;", 2);
    }

    @Says(in = "Terms 1", value = "of a SIDE at which there is a SIDE")
    static void twoSidesAtOnePlace(Check c) {
        c.refused("belt 6;side 5 1 0 1;side 0 1 0 1;side ^0 1 0 1;", 3);
    }

    @Says(in = "Terms 1", value = "of a SIDE at which there is a SIDE")
    static void sideWhereAnExitIs(Check c) {
        c.stands("belt 6;exit 0 1;side 0 1 0 1;", 6);
    }

    @Says(in = "Terms 1", value = "ROOM (1 to 20: how many ITEMS can wait)")
    static void room1(Check c) {
        MergeBelts x = Check.of("belt 6;exit 0 1;ware 0;side 0 1 0 1;");
        c.due("side(0, 1)", x.side(0, 1), 1);
        c.due("one can wait", x.push(0, 0), 1);
        c.due("two can't", x.push(0, 0), -1);
    }

    @Says(in = "Terms 1", value = "ROOM (1 to 20: how many ITEMS can wait)")
    static void room0(Check c) {
        c.refused("belt 6;side 0 ^0 0 1;", 2);
    }

    @Says(in = "Terms 1", value = "ROOM (1 to 20: how many ITEMS can wait)")
    static void room20(Check c) {
        MergeBelts x = Check.of("belt 6;exit 0 1;ware 0;side 0 20 0 1;");
        Check.push(x, 19, 0, 0);
        c.due("twenty can wait", x.push(0, 0), 20);
        c.due("the last one", x.waiting(0, 19), 0);
        c.due("21 can't", x.push(0, 0), -1);
        c.due("still", x.side(0, 4), 20);
    }

    @Says(in = "Terms 1", value = "ROOM (1 to 20: how many ITEMS can wait)")
    static void room21(Check c) {
        c.refused("belt 6;side 0 ^21 0 1;", 2);
    }

    @Says(in = "Terms 1", value = "REACH (0 to N - 1)")
    static void reach0(Check c) {
        c.due("side(0, 2)", Check.of("belt 6;side 0 1 0 1;").side(0, 2), 0);
    }

    @Says(in = "Terms 1", value = "REACH (0 to N - 1)")
    static void reachOfAllOthers(Check c) {
        c.due("side(0, 2)", Check.of("belt 6;side 0 1 5 1;").side(0, 2), 5);
    }

    @Says(in = "Terms 1", value = "REACH (0 to N - 1)")
    static void reachAllRound(Check c) {
        c.refused("belt 6;side 0 1 ^6 1;", 2);
    }

    @Says(in = "Terms 1", value = "REACH (0 to N - 1)")
    static void reachOnFortyPlaces(Check c) {
        c.due("side(0, 2)", Check.of("belt 40;side 0 1 39 1;").side(0, 2), 39);
        c.refused("belt 40;side 0 1 ^40 1;", 2);
    }

    @Says(in = "Terms 1", value = "SHARE (1 to 9)")
    static void share1(Check c) {
        c.due("side(0, 3)", Check.of("belt 6;side 0 1 0 1;").side(0, 3), 1);
    }

    @Says(in = "Terms 1", value = "SHARE (1 to 9)")
    static void share0(Check c) {
        c.refused("belt 6;side 0 1 0 ^0;", 2);
    }

    @Says(in = "Terms 1", value = "SHARE (1 to 9)")
    static void share9(Check c) {
        c.due("side(0, 3)", Check.of("belt 6;side 0 1 0 9;").side(0, 3), 9);
    }

    @Says(in = "Terms 1", value = "SHARE (1 to 9)")
    static void share10(Check c) {
        c.refused("belt 6;side 0 1 0 ^10;", 2);
    }

    @Says(in = "Terms 1", value = "COMINGS (at most 12)")
    static void noComing(Check c) {
        MergeBelts x = Check.of(EXIT_WARE_SIDE);
        c.due("count(4)", x.count(4), 0);
        c.noSuch("coming(0, 0)", () -> x.coming(0, 0));
        c.due("nobody comes", x.ticks(99) + x.count(6) + x.count(9) + x.count(11), 0);
    }

    @Says(in = "Terms 1", value = "COMINGS (at most 12)")
    static void twelveComings(Check c) {
        MergeBelts x = Check.of("belt 6;exit 1 1;ware 0;side 0 20 0 1;" + lines(12, "comes 0 0 30 #;"));
        c.due("count(4)", x.count(4), 12);
        c.due("coming(11, 3)", x.coming(11, 3), 11);
        c.noSuch("coming(12, 0)", () -> x.coming(12, 0));
        x.ticks(12);
        c.due("all came", x.side(0, 10), 12);
    }

    @Says(in = "Terms 1", value = "4 one too many: the word of an EXIT, a WARE, a SIDE, a COMING")
    static void oneComingTooMany(Check c) {
        c.refused(EXIT_WARE_SIDE + lines(12, "comes 0 0 30 0;") + "^comes 0 0 30 0;", 4);
    }

    @Says(in = "Terms 1", value = "(a SIDE, a WARE told ahead, EVERY, FROM)")
    static void comingToTheLastSideToldAhead(Check c) {
        c.due("coming(0, 0)", Check.of(EXIT_WARE_SIDE + "side 5 1 0 1;comes 1 0 1 0;").coming(0, 0), 1);
    }

    @Says(in = "Terms 1", value = "(a SIDE, a WARE told ahead, EVERY, FROM)")
    static void comingToASideToldBehind(Check c) {
        c.refused(EXIT_WARE_SIDE + "comes ^1 0 1 0;side 5 1 0 1;", 2);
    }

    @Says(in = "Terms 1", value = "(a SIDE, a WARE told ahead, EVERY, FROM)")
    static void comingWithoutAnySide(Check c) {
        c.refused(EXIT_WARE + "comes ^0 0 1 0;", 2);
    }

    @Says(in = "Terms 1", value = "(a SIDE, a WARE told ahead, EVERY, FROM)")
    static void comingOfTheLastWareToldAhead(Check c) {
        c.due("coming(0, 1)", Check.of(EXIT_WARE_SIDE + "ware 0;comes 0 1 1 0;").coming(0, 1), 1);
    }

    @Says(in = "Terms 1", value = "(a SIDE, a WARE told ahead, EVERY, FROM)")
    static void comingOfAWareToldBehind(Check c) {
        c.refused(EXIT_WARE_SIDE + "comes 0 ^1 1 0;ware 0;", 2);
    }

    @Says(in = "Terms 1", value = "(a SIDE, a WARE told ahead, EVERY, FROM)")
    static void comingWithoutAnyWare(Check c) {
        c.refused("belt 6;exit 0 1;side 0 1 0 1;comes 0 ^0 1 0;", 2);
    }

    @Says(in = "Terms 1", value = "EVERY (1 to 30)")
    static void every1(Check c) {
        MergeBelts x = Check.of("belt 4;exit 1 1;ware 0;side 0 1 0 1;comes 0 0 1 0;");
        for (int tick = 0; tick < 5; tick++) {
            c.due("coming(0, 4)", x.coming(0, 4), 0);
            x.ticks(1);
            c.due("one in each TICK", x.side(0, 10), tick + 1);
        }
    }

    @Says(in = "Terms 1", value = "EVERY (1 to 30)")
    static void every0(Check c) {
        c.refused(EXIT_WARE_SIDE + "comes 0 0 ^0 0;", 2);
    }

    @Says(in = "Terms 1", value = "EVERY (1 to 30)")
    static void every30(Check c) {
        MergeBelts x = Check.of("belt 4;exit 1 1;ware 0;side 0 1 0 1;comes 0 0 30 0;");
        x.ticks(30);
        c.due("behind TICK 29", x.side(0, 10), 1);
        c.due("due in the next", x.coming(0, 4), 0);
        x.ticks(1);
        c.due("behind TICK 30", x.side(0, 10), 2);
        x.ticks(29);
        c.due("behind TICK 59", x.side(0, 10), 2);
        x.ticks(1);
        c.due("behind TICK 60", x.side(0, 10), 3);
    }

    @Says(in = "Terms 1", value = "EVERY (1 to 30)")
    static void every31(Check c) {
        c.refused(EXIT_WARE_SIDE + "comes 0 0 ^31 0;", 2);
    }

    @Says(in = "Terms 1", value = "FROM (0 to 999)")
    static void from0(Check c) {
        MergeBelts x = Check.of("belt 4;exit 2 1;ware 0;side 0 1 0 1;comes 0 0 30 0;");
        c.due("due in the first TICK", x.coming(0, 4), 0);
        x.ticks(1);
        c.due("it came", x.place(0, 0), 0);
    }

    @Says(in = "Terms 1", value = "FROM (0 to 999)")
    static void from999(Check c) {
        MergeBelts x = Check.of("belt 4;exit 2 1;ware 0;side 0 1 0 1;comes 0 0 1 999;");
        c.due("coming(0, 4)", x.coming(0, 4), 999);
        x.ticks(500);
        x.ticks(499);
        c.due("behind TICK 998", x.side(0, 10), 0);
        c.due("due in the next", x.coming(0, 4), 0);
        x.ticks(1);
        c.due("behind TICK 999", x.side(0, 10), 1);
        x.ticks(1);
        c.due("behind TICK 1000", x.side(0, 10), 2);
    }

    @Says(in = "Terms 1", value = "FROM (0 to 999)")
    static void from1000(Check c) {
        c.refused(EXIT_WARE_SIDE + "comes 0 0 1 ^1000;", 2);
    }
}
