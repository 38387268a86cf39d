/** Promises 5 to 12 and what a TICK does, worked out by hand. */
public final class TickTest {
    private static final Check C = new Check();

    public static void main(String[] args) {
        lostAndTaken();
        roundsAndJam();
        pace();
        exitsByNumbers();
        sideAtAnExit();
        reserved();
        reservedForAnother();
        credits();
        laws();
        logOfForty();
        asManyAsCanBe();
        wrongOnes();
        C.end("TickTest");
    }

    private static int[] side(MergeBelts x, int side) {
        int[] row = new int[14];
        for (int what = 0; what < 14; what++) {
            row[what] = x.side(side, what);
        }
        return row;
    }

    private static int[] log(MergeBelts x, int ago) {
        int[] row = new int[7];
        for (int what = 0; what < 7; what++) {
            row[what] = x.log(ago, what);
        }
        return row;
    }

    private static int[] count(MergeBelts x) {
        int[] row = new int[16];
        for (int what = 0; what < 16; what++) {
            row[what] = x.count(what);
        }
        return row;
    }

    /** Two come in each TICK where one has ROOM: the second is LOST, the first goes on at once. */
    private static void lostAndTaken() {
        MergeBelts x = Check.of("belt 4;exit 2 1;ware 0;side 0 1 0 1;comes 0 0 1 0;comes 0 0 2 1;");
        C.due("ticks(3)", x.ticks(3), 1);
        C.row("count", count(x), 4, 1, 1, 1, 2, 3, 2, 0, 2, 0, 1, 1, 1, 1, 0, 0);
        C.row("wares at places", Check.places(x, 0), 0, 0, -1, -1);
        C.row("rides", Check.places(x, 3), 1, 2, -1, -1);
        C.row("log", log(x, 0), 2, 0, 0, 0, 0, 2, 0);
        C.row("side", side(x, 0), 0, 1, 0, 1, 0, 0, 0, 0, 0, 0, 3, 1, 1, 0);
        C.due("ware(0, 2)", x.ware(0, 2), 2);
        C.due("ware(0, 3)", x.ware(0, 3), 0);
        C.due("ware(0, 4)", x.ware(0, 4), 1);
        C.due("coming(0, 4)", x.coming(0, 4), 0);
        C.due("coming(1, 4)", x.coming(1, 4), 0);
        x.ticks(1);
        C.due("coming(1, 4) behind its TICK", x.coming(1, 4), 1);
        MergeBelts late = Check.of("belt 4;exit 2 1;ware 0;side 0 1 0 1;comes 0 0 30 5;");
        C.due("due first", late.coming(0, 4), 5);
        late.ticks(5);
        C.due("due in the next", late.coming(0, 4), 0);
        C.due("not yet", late.count(6), 0);
        late.ticks(1);
        C.due("it came", late.count(6), 1);
        C.due("due again", late.coming(0, 4), 29);
    }

    /** Four of five go round and round at an EXIT that is SHUT. */
    private static void roundsAndJam() {
        MergeBelts x = Check.of("belt 4;exit 2 1;ware 0;side 0 9 0 1;");
        x.shut(0, 999);
        for (int k = 1; k <= 5; k++) {
            C.due("push", x.push(0, 0), k);
        }
        C.due("none is TAKEN", x.ticks(2), 0);
        C.due("no JAM where its own PLACE is free", x.exit(0, 4), 0);
        x.ticks(1);
        C.due("JAM back to the SIDE", x.exit(0, 4), 3);
        x.ticks(7);
        C.row("rounds", Check.places(x, 2), 2, 2, 1, 1);
        C.row("rides", Check.places(x, 3), 9, 10, 7, 8);
        C.row("from", Check.places(x, 1), 0, 0, 0, 0);
        C.due("JAM all round", x.exit(0, 4), 4);
        C.due("SHUT yet", x.exit(0, 2), 989);
        C.due("may take again, if it weren't SHUT", x.exit(0, 5), 0);
        C.row("side", side(x, 0), 0, 9, 0, 1, 1, 0, 0, 10, 0, 0, 4, 0, 0, 3);
        C.due("opened", x.shut(0, 0), 989);
        C.due("all five", x.ticks(9), 5);
        C.due("count(10)", x.count(10), 5);
        C.due("count(6)", x.count(6), 0);
        C.due("the longest WAIT: till the first was TAKEN and its PLACE came round", x.side(0, 13), 12);
    }

    /** An EXIT with PACE 3, by which four pass. */
    private static void pace() {
        MergeBelts x = Check.of("belt 4;exit 2 3;ware 0;side 0 9 0 1;");
        for (int k = 0; k < 4; k++) {
            x.push(0, 0);
        }
        C.due("the first at once", x.ticks(3), 1);
        C.due("may take again in", x.exit(0, 5), 2);
        C.due("not yet", x.ticks(2), 0);
        C.due("in the next", x.exit(0, 5), 0);
        C.due("the fourth", x.ticks(1), 1);
        C.due("the others", x.ticks(6), 2);
        C.row("log 0", log(x, 0), 11, 0, 0, 0, 1, 10, 2);
        C.row("log 1", log(x, 1), 8, 0, 0, 0, 2, 6, 1);
        C.row("log 2", log(x, 2), 5, 0, 0, 0, 3, 2, 0);
        C.row("log 3", log(x, 3), 2, 0, 0, 0, 0, 2, 0);
        C.due("longest WAIT", x.side(0, 13), 3);
        x.ticks(5);
        C.due("nothing is below 0", x.exit(0, 5), 0);
    }

    /** Each EXIT takes what goes there alone. */
    private static void exitsByNumbers() {
        MergeBelts x = Check.of("belt 6;exit 4 1;exit 2 1;ware 0;ware 1;side 0 4 0 1;side 1 4 0 1;");
        x.push(0, 0);
        x.push(0, 1);
        x.push(1, 1);
        C.due("TAKEN", x.ticks(5), 3);
        C.due("at EXIT 0", x.exit(0, 3), 1);
        C.due("at EXIT 1", x.exit(1, 3), 2);
        C.row("log 2", log(x, 2), 1, 1, 1, 1, 0, 1, 0);
        C.row("log 1", log(x, 1), 3, 1, 1, 0, 1, 2, 0);
        C.row("log 0", log(x, 0), 4, 0, 0, 0, 0, 4, 0);
    }

    /** What is TAKEN makes room in the same TICK; an ITEM that starts at its own EXIT goes all round. */
    private static void sideAtAnExit() {
        MergeBelts x = Check.of("belt 5;exit 3 1;ware 0;side 3 4 0 1;");
        x.push(0, 0);
        x.push(0, 0);
        C.due("none at once", x.ticks(1), 0);
        C.row("at places", Check.places(x, 0), -1, -1, -1, 0, -1);
        C.due("all round", x.ticks(5), 1);
        C.row("log", log(x, 0), 5, 0, 0, 0, 0, 5, 1);
        MergeBelts full = Check.of("belt 4;exit 0 1;ware 0;side 0 9 0 1;comes 0 0 1 0;");
        full.ticks(4);
        C.row("all full", Check.places(full, 0), 0, 0, 0, 0);
        C.due("one out, one in", full.ticks(3), 3);
        C.row("still full", Check.places(full, 0), 0, 0, 0, 0);
        C.due("nobody waits", full.count(9), 0);
    }

    /** Three wait, two PLACES within REACH: the first goes, two gaps are RESERVED, and what nobody needs gets free. */
    private static void reserved() {
        MergeBelts x = Check.of("belt 6;exit 4 1;ware 0;side 3 4 2 1;");
        x.push(0, 0);
        x.push(0, 0);
        x.push(0, 0);
        x.ticks(1);
        C.row("for whom", Check.places(x, 4), -1, 0, 0, -1, -1, -1);
        C.row("items", Check.places(x, 0), -1, -1, -1, 0, -1, -1);
        C.row("side", side(x, 0), 3, 4, 2, 1, 2, 2, 0, 1, 0, 0, 1, 0, 0, 0);
        C.due("count(7)", x.count(7), 2);
        C.due("count(8)", x.count(8), 3);
        x.ticks(1);
        C.row("they move", Check.places(x, 4), -1, -1, 0, -1, -1, -1);
        C.due("held", x.side(0, 5), 1);
        C.due("one waits", x.side(0, 4), 1);
        x.ticks(1);
        C.row("all went", Check.places(x, 4), -1, -1, -1, -1, -1, -1);
        C.due("gone", x.side(0, 10), 3);
        C.due("the longest WAIT", x.side(0, 13), 2);
        MergeBelts y = Check.of("belt 6;exit 4 1;ware 0;side 3 4 0 1;side 0 4 5 1;");
        y.push(1, 0);
        y.push(1, 0);
        y.ticks(1);
        C.row("the nearest one", Check.places(y, 4), -1, -1, -1, -1, -1, 1);
        y.undo();
        y.undo();
        y.ticks(1);
        C.row("none for nobody", Check.places(y, 4), -1, -1, -1, -1, -1, -1);
    }

    /** A gap goes by another SIDE untouched; where nobody waits for it any more it gets free. */
    private static void reservedForAnother() {
        MergeBelts x = Check.of("belt 8;exit 7 1;ware 0;side 2 4 0 1;side 4 4 3 1;exit 0 1;ware 1;");
        x.push(1, 0);
        x.push(1, 0);
        x.push(1, 0);
        x.push(1, 0);
        x.ticks(1);
        C.row("three for SIDE 1", Check.places(x, 4), -1, 1, 1, 1, -1, -1, -1, -1);
        x.push(0, 0);
        x.ticks(1);
        C.row("they pass SIDE 0", Check.places(x, 4), -1, -1, 1, 1, -1, -1, -1, -1);
        C.due("SIDE 0 waits", x.side(0, 4), 1);
        C.due("it has not gone", x.side(0, 10), 0);
        x.ticks(1);
        C.due("till its PLACE is free", x.side(0, 10), 1);
        C.due("with a WAIT of one TICK", x.side(0, 13), 1);
        x.ticks(1);
        C.due("SIDE 1 is empty", x.side(1, 4), 0);
        MergeBelts y = Check.of("belt 8;exit 7 1;ware 0;side 4 4 3 1;");
        y.push(0, 0);
        y.push(0, 0);
        y.ticks(1);
        C.row("one RESERVED", Check.places(y, 4), -1, -1, -1, 0, -1, -1, -1, -1);
        y.ticks(1);
        C.due("it was used", y.count(7), 0);
        MergeBelts z = Check.of("belt 8;exit 7 1;ware 0;side 0 4 7 1;side 4 9 3 1;");
        z.push(1, 0);
        z.push(1, 0);
        z.push(1, 0);
        z.ticks(1);
        z.ticks(1);
        z.change(1, 1, 0);
        C.row("what is RESERVED stays so whatever REACH becomes", Check.places(z, 4), -1, -1, -1, 1, -1, -1, -1, -1);
        z.ticks(1);
        C.due("all of SIDE 1 went", z.side(1, 10), 3);
    }

    /** By shares 1 and 2, where both may have the same gaps. */
    private static void credits() {
        MergeBelts x = Check.of("belt 8;exit 0 1;ware 0;side 2 4 3 1;side 5 4 3 2;");
        x.push(0, 0);
        x.push(0, 0);
        x.push(1, 0);
        x.push(1, 0);
        x.ticks(1);
        C.due("the chosen one pays all shares", x.side(0, 6), -2);
        C.due("the other one has its share", x.side(1, 6), 2);
        C.due("RANK is credit", x.side(1, 9), 2);
        MergeBelts y = Check.of("belt 10;exit 2 1;ware 0;side 4 20 9 1;side 6 20 9 2;comes 0 0 1 0;comes 1 0 1 0;");
        y.ticks(400);
        int a = y.side(0, 10);
        int b = y.side(1, 10);
        C.due("by shares: " + a + " and " + b, b > a);
        C.due("credits are all together none", y.side(0, 6) + y.side(1, 6), 0);
    }

    /** Whoever is first by RANK has the PLACE of which all want one; of several the least. */
    private static void laws() {
        for (String law : new String[] {"", "turns 5;", "turns side;", "turns 0-side;", "turns urgent;", "turns room;"}) {
            MergeBelts x = Check.of("belt 12;exit 0 1;ware 0;ware 0 urgent;side 3 9 1 1;side 4 8 2 9;side 5 7 3 4;" + law);
            for (int side = 0; side < 3; side++) {
                x.push(side, 0);
                x.push(side, side == 1 ? 1 : 0);
            }
            x.ticks(1);
            int want = law.equals("turns urgent;") ? 1 : law.equals("turns side;") ? 2 : 0;
            C.due("for whom PLACE 2 is by '" + law + "'", x.place(2, 4), want);
        }
        MergeBelts tie = Check.of("belt 12;exit 0 1;ware 0;side 4 8 2 9;side 3 9 1 1;turns waits;");
        for (int side = 0; side < 2; side++) {
            tie.push(side, 0);
            tie.push(side, 0);
        }
        tie.ticks(1);
        C.due("the least of several", tie.place(2, 4), 0);
    }

    private static void logOfForty() {
        MergeBelts x = Check.of("belt 4;exit 1 1;ware 0;side 0 3 0 1;comes 0 0 1 0;");
        x.ticks(40);
        C.due("39 rows", x.count(12), 39);
        C.due("the oldest", x.log(38, 0), 1);
        C.noSuch("log(39, 0)", () -> x.log(39, 0));
        x.ticks(5);
        C.due("40 rows", x.count(12), 40);
        C.due("TAKEN ever", x.count(10), 44);
        for (int ago = 0; ago < 40; ago++) {
            C.due("log(" + ago + ", 0)", x.log(ago, 0), 44 - ago);
        }
        C.noSuch("log(40, 0)", () -> x.log(40, 0));
    }

    /** Six EXITS, eight WARES, six SIDES, twelve COMINGS on forty PLACES. */
    private static void asManyAsCanBe() {
        StringBuilder s = new StringBuilder("belt 40;");
        for (int k = 0; k < 6; k++) {
            s.append("exit ").append(6 * k + 3).append(" 1;side ").append(6 * k).append(" 1 12 ").append(k < 5 ? 3 : 4).append(';');
        }
        for (int k = 0; k < 8; k++) {
            s.append("ware ").append(k < 6 ? k : 5).append(k > 5 ? " urgent;" : ";");
        }
        for (int k = 0; k < 12; k++) {
            s.append("comes ").append(k % 6).append(' ').append(k % 6).append(" 30 1;");
        }
        MergeBelts x = Check.of(s.toString());
        x.change(4, 0, 3);
        x.change(5, 0, 20);
        x.push(4, 6);
        x.push(4, 6);
        x.push(5, 7);
        x.push(5, 7);
        C.due("urgent", x.side(5, 8), 2);
        C.due("ware(7, 3)", x.ware(7, 3), 2);
        x.ticks(1);
        C.due("held of SIDE 4", x.side(4, 5), 1);
        C.due("held of SIDE 5", x.side(5, 5), 1);
        C.due("credit of SIDE 4", x.side(4, 6), -4);
        C.due("credit of SIDE 5", x.side(5, 6), 4);
        C.row("all twelve come: ROOM 1, LOST 1; ROOM 3, one waits", new int[] {x.ticks(1), x.count(11), x.count(9)}, 0, 4, 4);
        C.row("one RESERVED each was used, so one and two more are", new int[] {x.side(4, 5), x.side(5, 5), x.side(4, 10), x.side(5, 10)}, 2, 2, 2, 2);
        C.due("all are TAKEN", x.ticks(20), 4 + 4 + 4);
        for (int k = 0; k < 4; k++) {
            C.due("TAKEN of SIDE " + k, x.side(k, 11), 1);
            C.due("TAKEN at EXIT " + k, x.exit(k, 3), 1);
            C.due("TAKEN of WARE " + k, x.ware(k, 4), 1);
            C.due("LOST of SIDE " + k, x.side(k, 12), 1);
        }
        C.due("WARE 7", x.ware(7, 4), 2);
        C.due("WARE 6", x.ware(6, 4), 2);
        C.due("EXIT 5", x.exit(5, 3), 6);
        C.due("SIDE 5", x.side(5, 11), 4);
        C.due("coming(11, 4)", x.coming(11, 4), 9);
    }

    private static void wrongOnes() {
        MergeBelts x = Check.of("belt 4;exit 1 1;ware 0;side 0 3 0 1;comes 0 0 1 0;");
        x.ticks(3);
        x.shut(0, 9);
        x.push(0, 0);
        C.due("waiting(0, 0)", x.waiting(0, 0), 0);
        for (int wrong : new int[] {-1, Integer.MIN_VALUE, Integer.MAX_VALUE, 40}) {
            C.noSuch("count", () -> x.count(wrong));
            C.noSuch("place", () -> x.place(wrong, 0));
            C.noSuch("place what", () -> x.place(0, wrong));
            C.noSuch("exit", () -> x.exit(wrong, 0));
            C.noSuch("exit what", () -> x.exit(0, wrong));
            C.noSuch("ware", () -> x.ware(wrong, 0));
            C.noSuch("ware what", () -> x.ware(0, wrong));
            C.noSuch("side", () -> x.side(wrong, 0));
            C.noSuch("side what", () -> x.side(0, wrong));
            C.noSuch("waiting", () -> x.waiting(wrong, 0));
            C.noSuch("waiting k", () -> x.waiting(0, wrong));
            C.noSuch("coming", () -> x.coming(wrong, 0));
            C.noSuch("coming what", () -> x.coming(0, wrong));
            C.noSuch("log", () -> x.log(wrong, 0));
            C.noSuch("log what", () -> x.log(0, wrong));
        }
        C.noSuch("count(16)", () -> x.count(16));
        C.noSuch("place(4, 0)", () -> x.place(4, 0));
        C.noSuch("place(0, 5)", () -> x.place(0, 5));
        C.noSuch("exit(1, 0)", () -> x.exit(1, 0));
        C.noSuch("exit(0, 6)", () -> x.exit(0, 6));
        C.noSuch("ware(1, 0)", () -> x.ware(1, 0));
        C.noSuch("ware(0, 5)", () -> x.ware(0, 5));
        C.noSuch("side(1, 0)", () -> x.side(1, 0));
        C.noSuch("side(0, 14)", () -> x.side(0, 14));
        C.noSuch("waiting(0, 1)", () -> x.waiting(0, 1));
        C.noSuch("waiting(1, 0)", () -> x.waiting(1, 0));
        C.noSuch("coming(1, 0)", () -> x.coming(1, 0));
        C.noSuch("coming(0, 5)", () -> x.coming(0, 5));
        C.noSuch("log(0, 7)", () -> x.log(0, 7));
        C.noSuch("log(2, 0)", () -> x.log(2, 0));
    }
}
