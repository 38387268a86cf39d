/** Promises 1 to 4: a new object, the tape, the TEXT with its FAULTS. */
public final class TextTest {
    private static final Check C = new Check();
    /** 36 bytes, with one of each that a COMING needs. */
    private static final String ONE_OF_ALL = "belt 6;exit 0 1;ware 0;side 0 1 0 1;";

    public static void main(String[] args) {
        promise1();
        promise2();
        promise3();
        linesThatStand();
        faults();
        oneTooMany();
        sums();
        promise4();
        C.end("TextTest");
    }

    private static void promise1() {
        MergeBelts x = new MergeBelts();
        C.due("new: count(0)", x.count(0), 4);
        for (int what = 1; what < 16; what++) {
            C.due("new: count(" + what + ")", x.count(what), what == 8 ? 4 : 0);
        }
        for (int p = 0; p < 4; p++) {
            for (int what = 0; what < 5; what++) {
                C.due("new: place", x.place(p, what), -1);
            }
        }
        C.noSuch("new: place(4, 0)", () -> x.place(4, 0));
        C.noSuch("new: exit(0, 0)", () -> x.exit(0, 0));
        C.noSuch("new: ware(0, 0)", () -> x.ware(0, 0));
        C.noSuch("new: side(0, 0)", () -> x.side(0, 0));
        C.noSuch("new: coming(0, 0)", () -> x.coming(0, 0));
        C.noSuch("new: log(0, 0)", () -> x.log(0, 0));
        C.due("new: fault()", x.fault(), MergeBelts.NONE);
        C.due("new: undo()", x.undo(), -1);
        C.due("new: back()", !x.back());
        C.due("new: ticks(500)", x.ticks(500), 0);
        C.due("NONE", MergeBelts.NONE, -1);
    }

    private static void promise2() {
        MergeBelts x = new MergeBelts();
        for (int k = 1; k <= 25; k++) {
            C.due("feed", x.feed(0x62656c74, 0x20373b20, 0x20202020, 0x20202020, 0x20202020), 20 * k);
            C.due("count(14)", x.count(14), 20 * k);
        }
        C.due("the 26th feed", x.feed(1, 2, 3, 4, 5), -1);
        C.due("the tape stays", x.count(14), 500);
        C.due("the highest byte first", x.belt(7), 7);
        C.due("the tape is empty behind belt()", x.count(14), 0);
        C.due("feed again", x.feed(0, 0, 0, 0, 0), 20);
        MergeBelts y = new MergeBelts();
        y.feed(0x62656c74, 0x2035FF3b, 0, 0, -1);
        C.due("a byte above 127 can't stand", y.belt(8), -11);
        C.due("its place", y.fault(), 6);
        y.feed(-1, -1, -1, -1, -1);
        C.due("minus 1 is four bytes 255", y.belt(20), -11);
        C.due("the first of them", y.fault(), 0);
    }

    private static void promise3() {
        MergeBelts x = Check.of(ONE_OF_ALL + "comes 0 0 1 0;turns 7;");
        x.ticks(2);
        Check.feed(x, "belt 9;");
        C.illegal("belt(-1)", () -> x.belt(-1));
        C.illegal("belt(21)", () -> x.belt(21));
        C.due("the tape stays behind IllegalArgumentException", x.count(14), 20);
        C.due("a TEXT with a FAULT", x.belt(6), -11);
        C.due("the tape is empty whatever comes of it", x.count(14), 0);
        C.illegal("belt(1) of an empty tape", () -> x.belt(1));
        int[] still = {6, 1, 1, 1, 1, 2, 2, 0, 4, 0, 0, 0, 0, 1, 0, 1};
        for (int what = 0; what < still.length; what++) {
            C.due("nothing else changes: count(" + what + ")", x.count(what), still[what]);
        }
        x.image();
        C.due("belt 9", Check.belt(x, "belt 9;"), 9);
        for (int what = 1; what < 16; what++) {
            C.due("all anew: count(" + what + ")", x.count(what), what == 8 ? 9 : 0);
        }
        C.due("no ACTS are kept", x.undo(), -1);
        C.due("what was kept is still", x.back());
        C.due("back to 6 PLACES", x.count(0), 6);
        Check.feed(x, "belt 12;");
        C.due("only the first n bytes", x.belt(7), -11);
        C.due("an empty TEXT", x.belt(0), -11);
    }

    private static void linesThatStand() {
        C.stands("belt 4;", 4);
        C.stands("belt 40;", 40);
        C.stands("belt6;exit5 9;", 6);
        C.stands(" \n belt\n007 ; \n", 7);
        C.stands("belt 0000000000000000000000000000000000000006;", 6);
        C.stands("belt 6;exit 0 1;exit 5 9;side 0 1 0 1;side 5 20 5 9;", 6);
        C.stands("belt 6;side 1 1 1 1;exit 1 1;ware 0 urgent;ware 0;", 6);
        C.stands(ONE_OF_ALL + "comes 0 0 1 0;comes 0 0 30 999;", 6);
        C.stands("belt 6;turns 0;exit 1 1;", 6);
        MergeBelts x = Check.of("belt 9;exit 3 2;exit 8 9;ware 1;ware 0 urgent;side 3 4 5 6;side 0 20 8 9;comes 1 0 30 999;comes 0 1 7 3;");
        int[] exit = {8, 9, 0, 0, 0, 0};
        for (int what = 0; what < 6; what++) {
            C.due("exit(1, " + what + ")", x.exit(1, what), exit[what]);
        }
        int[] side = {3, 4, 5, 6, 0, 0, 0, 0, 0, 0, 0, 0, 0, 0};
        for (int what = 0; what < 14; what++) {
            C.due("side(0, " + what + ")", x.side(0, what), side[what]);
        }
        C.due("ware(0, 0)", x.ware(0, 0), 1);
        C.due("ware(0, 1)", x.ware(0, 1), 0);
        C.due("ware(1, 0)", x.ware(1, 0), 0);
        C.due("ware(1, 1)", x.ware(1, 1), 1);
        int[] coming = {1, 0, 30, 999, 999};
        for (int what = 0; what < 5; what++) {
            C.due("coming(0, " + what + ")", x.coming(0, what), coming[what]);
        }
    }

    private static void faults() {
        C.refused("", 1, 0);
        C.refused("   ", 1, 3);
        C.refused("bel", 1, 0);
        C.refused("belts 6;", 1, 0);
        C.refused("Belt 6;", 1, 0);
        C.refused("6;", 1, 0);
        C.refused("belt", 1, 4);
        C.refused("belt;", 1, 4);
        C.refused("belt\t6;", 1, 4);
        C.refused("belt 6  ", 1, 8);
        C.refused("belt 6;;", 1, 7);
        C.refused("belt 6;exit", 1, 11);
        C.refused("belt 6;exitz 1 1;", 1, 7);
        C.refused("belt 6;aexit 1 1;", 1, 7);
        C.refused("belt 6;exit{1 1;", 1, 11);
        C.refused("belt 6;exit 1`1;", 1, 13);
        C.refused("belt 6;exit 1;", 1, 13);
        C.refused("belt 6;exit 1 1 1;", 1, 16);
        C.refused("belt 6;exit -1 1;", 1, 12);
        C.refused("belt 6;belt 6;", 1, 7);
        C.refused("belt 3;", 2, 5);
        C.refused("belt 41;", 2, 5);
        C.refused("belt 99999999999999999999999;", 2, 5);
        C.refused("belt 4294967300;", 2, 5);
        C.refused("belt 6;exit 6 1;", 2, 12);
        C.refused("belt 6;exit 1 0;", 2, 14);
        C.refused("belt 6;exit 1 10;", 2, 14);
        C.refused("belt 6;ware 0;", 2, 12);
        C.refused("belt 6;exit 0 1;ware 1;", 2, 21);
        C.refused("belt 6;exit 0 1;ware 0 urgen;", 1, 23);
        C.refused("belt 6;exit 0 1;ware 0 urgent urgent;", 1, 30);
        C.refused("belt 6;side 6 1 0 1;", 2, 12);
        C.refused("belt 6;side 0 0 0 1;", 2, 14);
        C.refused("belt 6;side 0 21 0 1;", 2, 14);
        C.refused("belt 6;side 0 1 6 1;", 2, 16);
        C.refused("belt 6;side 0 1 5 0;", 2, 18);
        C.refused("belt 6;side 0 1 5 10;", 2, 18);
        C.refused("belt 6;side 0 1 5;", 1, 17);
        C.refused(ONE_OF_ALL + "comes 1 0 1 0;", 2, 42);
        C.refused(ONE_OF_ALL + "comes 0 1 1 0;", 2, 44);
        C.refused(ONE_OF_ALL + "comes 0 0 0 0;", 2, 46);
        C.refused(ONE_OF_ALL + "comes 0 0 31 0;", 2, 46);
        C.refused(ONE_OF_ALL + "comes 0 0 30 1000;", 2, 49);
        C.refused("belt 6;exit 3 1;exit 0 1;exit 3 1;", 3, 30);
        C.refused("belt 6;exit 3 1;exit 3 0;", 3, 21);
        C.refused("belt 6;side 2 1 0 1;side 2 1 0 1;", 3, 25);
        C.refused("belt 6;turns 1;turns 1;", 5, 15);
        C.refused("belt 6;turns 1;turns", 5, 15);
        C.refused("belt 6;turns;", 1, 12);
        C.refused("belt 6;turns 10000;", 2, 13);
        C.refused("belt 6;turns -1;", 1, 13);
        C.refused("belt 6;turns 1+;", 1, 15);
        C.refused("belt 6;turns 1 2;", 1, 15);
        C.refused("belt 6;turns (1;", 1, 15);
        C.refused("belt 6;turns (1", 1, 15);
        C.refused("belt 6;turns 1);", 1, 14);
        C.refused("belt 6;turns ();", 1, 14);
        C.refused("belt 6;turns 1/2;", 1, 14);
        C.refused("belt 6;turns place;", 1, 13);
        C.refused("belt 6;turns late late;", 1, 18);
        C.refused("belt 6;turns ((((((( 1", 4, 19);
        C.refused("belt 40;exit 0 1;exit 1 1;exit 2 1;exit 3 1;exit 4 1;exit 5 1;turns 1;turns 2;", 5, 70);
    }

    private static String times(int n, String line) {
        StringBuilder s = new StringBuilder();
        for (int k = 0; k < n; k++) {
            s.append(line.replace("#", Integer.toString(k)));
        }
        return s.toString();
    }

    private static void oneTooMany() {
        String six = "belt 40;" + times(6, "exit # 1;");
        C.stands(six, 40);
        C.refused(six + "exit", 4, six.length());
        String eight = "belt 40;exit 0 1;" + times(8, "ware 0;");
        C.stands(eight, 40);
        C.refused(eight + "ware 0;", 4, eight.length());
        String sides = "belt 40;" + times(6, "side # 1 0 1;");
        C.stands(sides, 40);
        C.refused(sides + "side 0 1 0 1;", 4, sides.length());
        String twelve = ONE_OF_ALL + times(12, "comes 0 0 # 0;").replace("comes 0 0 0 ", "comes 0 0 30 ");
        C.stands(twelve, 6);
        C.refused(twelve + "comes 0 0 1 0;", 4, twelve.length());
    }

    private static void law(String sum, int rank) {
        MergeBelts x = Check.of("belt 9;exit 8 1;ware 0;ware 0 urgent;side 8 1 0 1;side 3 7 5 9;turns " + sum + ";");
        x.push(1, 1);
        x.push(1, 0);
        x.push(1, 1);
        x.push(1, 1);
        x.push(1, 0);
        x.ticks(1);
        C.due("turns " + sum, x.side(1, 9), rank);
        C.due("turns", x.count(15), 1);
    }

    /** SIDE 1 behind the TICK: four wait, two of them URGENT, since one TICK; four PLACES were RESERVED by its own turns. */
    private static void sums() {
        law("7", 7);
        law("2+3*4-5", 9);
        law("10-3-2", 5);
        law("10-(3-2)", 9);
        law("2*(3+4)*2", 28);
        law("2*3+4*5", 26);
        law("((((((1))))))+((((((2))))))", 3);
        law("(1)+(1)+(1)+(1)+(1)+(1)+(1)", 7);
        law("9999*9999*9999", 9999 * 9999 * 9999);
        law("0-9999*9999*9999*3", -9999 * 9999 * 9999 * 3);
        law("share", 9);
        law("waits", 4);
        law("room", 7);
        law("held", 4);
        law("late", 1);
        law("urgent", 2);
        law("side", 1);
        law("credit", 0);
        law("waits*100+room*10-late", 469);
    }

    private static void promise4() {
        MergeBelts x = new MergeBelts();
        C.due("none yet", x.fault(), -1);
        Check.belt(x, "belt 3;");
        C.due("of belt()", x.fault(), 5);
        C.illegal("belt", () -> x.belt(1));
        C.illegal("ask", () -> x.ask(-1));
        C.due("not of IllegalArgumentException", x.fault(), 5);
        Check.ask(x, "many place=x");
        C.due("of ask()", x.fault(), 11);
        Check.ask(x, "many place=1");
        C.due("it had none", x.fault(), -1);
        Check.belt(x, "belt 4");
        C.due("of belt() again", x.fault(), 6);
        Check.belt(x, "belt 4;");
        C.due("belt() had none", x.fault(), -1);
    }
}
