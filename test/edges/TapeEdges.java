/** Boundary cases of Promises 2 to 4: the tape, belt(), fault(). */
final class TapeEdges {
    private TapeEdges() {
    }

    /** Feeds twenty blanks. */
    private static int blanks(MergeBelts x) {
        return x.feed(0x20202020, 0x20202020, 0x20202020, 0x20202020, 0x20202020);
    }

    private static MergeBelts withAFullTape() {
        MergeBelts x = new MergeBelts();
        Check.feed(x, "belt 8;" + " ".repeat(493));
        return x;
    }

    @Says(in = "Promise 2", value = "Twenty bytes come behind the tape")
    static void behindAnEmptyTape(Check c) {
        MergeBelts x = new MergeBelts();
        c.due("feed", blanks(x), 20);
        c.due("count(14)", x.count(14), 20);
    }

    @Says(in = "Promise 2", value = "Twenty bytes come behind the tape")
    static void behindWhatIsThere(Check c) {
        MergeBelts x = new MergeBelts();
        Check.feed(x, " ".repeat(16) + "belt" + "40;");
        c.due("count(14)", x.count(14), 40);
        c.due("the twentieth byte and the next one", x.belt(23), 40);
    }

    @Says(in = "Promise 2", value = "of each number the highest first")
    static void allBytesOfANumber(Check c) {
        // 'belt', '0009', ';' and blanks: the lowest byte of one number and the highest of the next one touch
        MergeBelts x = new MergeBelts();
        x.feed(0x62656c74, 0x30303039, 0x3b202020, 0x20202020, 0x20202020);
        c.due("belt(20)", x.belt(20), 9);
    }

    @Says(in = "Promise 2", value = "of each number the highest first")
    static void theGreatestAndTheLeastByte(Check c) {
        int[][] numbers = {{0x62656c74, 0x20363bff}, {0x62656c74, 0x20363b80}, {0x62656c74, 0x20363b00}};
        for (int[] two : numbers) {
            MergeBelts x = new MergeBelts();
            x.feed(two[0], two[1], -1, Integer.MIN_VALUE, Integer.MAX_VALUE);
            c.due("without it", x.count(14), 20);
            c.due("belt(8)", x.belt(8), -11);
            c.due("its place", x.fault(), 7);
        }
        MergeBelts x = new MergeBelts();
        x.feed(-1, -1, -1, -1, -1);
        c.due("belt(20) of bytes 255", x.belt(20), -11);
        c.due("the first of them", x.fault(), 0);
        x.feed(Integer.MIN_VALUE, 0, 0, 0, 0);
        c.due("belt(20) of byte 128 and 19 bytes 0", x.belt(20), -11);
    }

    @Says(in = "Promise 2", value = "NONE, and none come, if it would have more than 500")
    static void the500thByte(Check c) {
        MergeBelts x = new MergeBelts();
        for (int k = 1; k <= 25; k++) {
            c.due("feed " + k, blanks(x), 20 * k);
        }
        c.due("count(14)", x.count(14), 500);
    }

    @Says(in = "Promise 2", value = "NONE, and none come, if it would have more than 500")
    static void moreThan500Bytes(Check c) {
        MergeBelts x = withAFullTape();
        c.due("feed", x.feed(-1, -1, -1, -1, -1), -1);
        c.due("again", x.feed(-1, -1, -1, -1, -1), -1);
        c.due("count(14)", x.count(14), 500);
        c.illegal("belt(501)", () -> x.belt(501));
        c.due("all as it was", x.belt(500), 8);
    }

    @Says(in = "Promise 2", value = "NONE, and none come, if it would have more than 500")
    static void roomAgainBehindBelt(Check c) {
        MergeBelts x = withAFullTape();
        x.belt(7);
        c.due("feed", blanks(x), 20);
        MergeBelts y = withAFullTape();
        y.ask(200);
        c.due("feed behind ask()", blanks(y), 20);
    }

    @Says(in = "Promise 3", value = "The tape's first n bytes (it is empty then, whatever comes of it) are a TEXT")
    static void noneOfTheTapesBytes(Check c) {
        MergeBelts x = new MergeBelts();
        c.due("belt(0) of an empty tape", x.belt(0), -11);
        c.due("its place", x.fault(), 0);
        Check.feed(x, "belt 8;");
        c.due("belt(0)", x.belt(0), -11);
        c.due("the tape is empty all the same", x.count(14), 0);
        c.due("4 PLACES still", x.count(0), 4);
    }

    @Says(in = "Promise 3", value = "The tape's first n bytes (it is empty then, whatever comes of it) are a TEXT")
    static void allOfTheTapesBytes(Check c) {
        MergeBelts x = withAFullTape();
        c.due("belt(500)", x.belt(500), 8);
        c.due("count(14)", x.count(14), 0);
    }

    @Says(in = "Promise 3", value = "The tape's first n bytes (it is empty then, whatever comes of it) are a TEXT")
    static void onlyTheFirstBytes(Check c) {
        MergeBelts x = new MergeBelts();
        Check.feed(x, "belt 8;exit 9 9;");
        c.due("belt(7)", x.belt(7), 8);
        c.due("count(14)", x.count(14), 0);
        Check.feed(x, "belt 12;");
        c.due("belt(7)", x.belt(7), -11);
        c.due("the end", x.fault(), 7);
        Check.feed(x, "belt 12;");
        c.due("belt(6): the NUMBER is 1", x.belt(6), -12);
        c.due("its place", x.fault(), 5);
    }

    @Says(in = "Promise 3", value = "The tape's first n bytes (it is empty then, whatever comes of it) are a TEXT")
    static void theTapeIsEmptyBehindAFault(Check c) {
        MergeBelts x = new MergeBelts();
        Check.feed(x, "belt 3;");
        c.due("belt(7)", x.belt(7), -12);
        c.due("count(14)", x.count(14), 0);
        c.illegal("belt(1)", () -> x.belt(1));
    }

    private static MergeBelts busy() {
        MergeBelts x = Check.of("belt 5;exit 1 2;ware 0;side 0 9 3 1;side 4 3 4 2;comes 0 0 1 0;comes 1 0 1 0;turns late;");
        x.ticks(7);
        x.push(0, 0);
        return x;
    }

    @Says(in = "Promise 3", value = "all anew (no ACTS are kept then): N.")
    static void allAnew(Check c) {
        MergeBelts x = busy();
        x.shut(0, 9);
        c.due("belt", Check.belt(x, "belt 4;exit 0 1;ware 0;side 0 1 0 1;side 1 1 0 1;"), 4);
        int[] due = {4, 1, 1, 2, 0, 0, 0, 0, 4, 0, 0, 0, 0, 0, 0, 0};
        for (int what = 0; what < 16; what++) {
            c.due("count(" + what + ")", x.count(what), due[what]);
        }
        for (int what = 4; what < 14; what++) {
            c.due("side(0, " + what + ")", x.side(0, what), 0);
            c.due("side(1, " + what + ")", x.side(1, what), 0);
        }
        c.row("exit(0, 2), (0, 3), (0, 5), ware(0, 4)", new int[] {x.exit(0, 2), x.exit(0, 3), x.exit(0, 5), x.ware(0, 4)}, 0, 0, 0, 0);
        c.due("undo()", x.undo(), -1);
    }

    @Says(in = "Promise 3", value = "all anew (no ACTS are kept then): N.")
    static void theSameTextTwice(Check c) {
        String text = "belt 5;exit 1 9;ware 0;side 0 2 3 1;side 4 3 4 2;comes 0 0 1 0;comes 1 0 1 0;";
        MergeBelts x = Check.of(text);
        x.ticks(4);
        c.due("credits aren't 0", x.side(0, 6) != 0 && x.side(1, 6) != 0);
        x.shut(0, 99);
        x.ticks(30);
        Check.belt(x, text);
        c.due("all as in a new object", Look.of(x).equals(Look.of(Check.of(text))));
        x.ticks(30);
        MergeBelts y = Check.of(text);
        y.ticks(30);
        c.due("and it goes on so", Look.of(x).equals(Look.of(y)));
    }

    @Says(in = "Promise 3", value = "all anew (no ACTS are kept then): N.")
    static void turnsOfATextAhead(Check c) {
        String text = "belt 4;exit 2 1;ware 0;side 0 3 0 1;side 1 3 0 1;comes 0 0 1 0;";
        MergeBelts x = Check.of(text + "turns late;");
        for (String turns : new String[] {"", "turns waits;"}) {
            Check.belt(x, text + turns);
            x.ticks(6);
            x.push(1, 0);
            c.due("'turns' ask no more for late", x.again(0), 0);
            c.due("RANK", x.side(1, 9), turns.isEmpty() ? 0 : 1);
        }
    }

    @Says(in = "Promise 3", value = "all anew (no ACTS are kept then): N.")
    static void manyTextsWithLongSums(Check c) {
        MergeBelts x = new MergeBelts();
        for (int k = 1; k <= 9; k++) {
            c.due("belt", Check.belt(x, "belt 4;side 0 1 0 1;turns " + k + "+1".repeat(236) + ";"), 4);
            c.due("RANK", x.side(0, 9), k + 236);
        }
    }

    @Says(in = "Promise 3", value = "-10 less the FAULT (nothing else changes).")
    static void aTextBehindAFaultInABracket(Check c) {
        MergeBelts x = new MergeBelts();
        for (int k = 0; k < 20; k++) {
            c.due("a FAULT", Check.belt(x, "belt 4;side 0 1 0 1;turns 1+(2*(3-(4*(5+(6*10000"), -12);
            c.due("belt", Check.belt(x, "belt 4;side 0 1 0 1;turns 2*(3+(4*(5-(6-(7*(8-1))))));"), 4);
            c.due("RANK", x.side(0, 9), 2 * (3 + 4 * (5 - (6 - 49))));
        }
    }

    @Says(in = "Promise 3", value = "-10 less the FAULT (nothing else changes).")
    static void aFaultChangesNothingElse(Check c) {
        c.changesNothing(() -> {
            MergeBelts x = busy();
            Check.belt(x, "belt 4;?");
            return x;
        }, x -> {
            Check.belt(x, "belt 6;exit 5 1;ware 0;side 5 1 0 1;comes 0 0 1 0;turns 1;comes 0 0 1 1000;");
            Check.belt(x, "belt 4;?");
        });
    }

    @Says(in = "Promise 3", value = "-10 less the FAULT (nothing else changes).")
    static void actsStayBehindAFault(Check c) {
        MergeBelts x = busy();
        Check.belt(x, "belt 41;");
        c.due("count(13)", x.count(13), 2);
        c.due("undo()", x.undo(), 1);
        c.due("undo()", x.undo(), 0);
        c.due("TICK", x.count(5), 0);
    }

    @Says(in = "Promise 3", value = "IllegalArgumentException: the tape has not so many, n below 0 (nothing changes).")
    static void moreThanTheTapeHas(Check c) {
        MergeBelts x = new MergeBelts();
        c.illegal("belt(1) of an empty tape", () -> x.belt(1));
        Check.feed(x, "belt 8;");
        c.illegal("belt(21)", () -> x.belt(21));
        c.illegal("belt(MAX)", () -> x.belt(Integer.MAX_VALUE));
        c.due("the tape stays", x.count(14), 20);
        c.due("belt(20)", x.belt(20), 8);
    }

    @Says(in = "Promise 3", value = "IllegalArgumentException: the tape has not so many, n below 0 (nothing changes).")
    static void fewerBytesThanNone(Check c) {
        MergeBelts x = new MergeBelts();
        Check.feed(x, "belt 8;");
        c.illegal("belt(-1)", () -> x.belt(-1));
        c.illegal("belt(MIN)", () -> x.belt(Integer.MIN_VALUE));
        c.due("belt(7)", x.belt(7), 8);
    }

    @Says(in = "Promise 3", value = "IllegalArgumentException: the tape has not so many, n below 0 (nothing changes).")
    static void nothingChanges(Check c) {
        c.changesNothing(() -> {
            MergeBelts x = busy();
            Check.belt(x, "belt 41;");
            Check.feed(x, "belt 6;");
            return x;
        }, x -> {
            c.illegal("belt(-1)", () -> x.belt(-1));
            c.illegal("belt(21)", () -> x.belt(21));
        });
    }

    @Says(in = "Promise 4", value = "NONE: it had none, or there was none.")
    static void thereWasNone(Check c) {
        MergeBelts x = new MergeBelts();
        c.due("of a new object", x.fault(), -1);
        c.illegal("belt(1)", () -> x.belt(1));
        c.illegal("ask(-1)", () -> x.ask(-1));
        c.due("of none but IllegalArgumentExceptions", x.fault(), -1);
    }

    @Says(in = "Promise 4", value = "NONE: it had none, or there was none.")
    static void itHadNone(Check c) {
        MergeBelts x = new MergeBelts();
        Check.belt(x, "belt 3;");
        Check.belt(x, "belt 4;");
        c.due("belt() behind belt()", x.fault(), -1);
        Check.belt(x, "belt 3;");
        Check.ask(x, "many 1=1");
        c.due("ask() behind belt()", x.fault(), -1);
        Check.ask(x, "many 1");
        Check.ask(x, "first 1=2");
        c.due("ask() behind ask()", x.fault(), -1);
        Check.ask(x, "many 1");
        Check.belt(x, "belt 4;");
        c.due("belt() behind ask()", x.fault(), -1);
    }

    @Says(in = "Promise 4", value = "The place of the latest FAULT of belt(), ask()")
    static void theFirstByteAndTheLengthOfTheLongest(Check c) {
        MergeBelts x = new MergeBelts();
        Check.belt(x, "?");
        c.due("the first byte", x.fault(), 0);
        Check.belt(x, "belt " + "0".repeat(494) + "6");
        c.due("the end of 500 bytes", x.fault(), 500);
        Check.ask(x, "many " + "0".repeat(195));
        c.due("the end of 200 bytes", x.fault(), 200);
        Check.ask(x, "?");
        c.due("the first byte", x.fault(), 0);
    }

    @Says(in = "Promise 4", value = "(the latest of these that was no IllegalArgumentException)")
    static void behindAnIllegalArgumentException(Check c) {
        MergeBelts x = new MergeBelts();
        Check.belt(x, "belt 3;");
        c.illegal("belt(1)", () -> x.belt(1));
        c.due("of belt()", x.fault(), 5);
        c.illegal("ask(-1)", () -> x.ask(-1));
        c.due("of belt()", x.fault(), 5);
        Check.ask(x, "many");
        c.illegal("ask(201)", () -> x.ask(201));
        c.illegal("belt(-1)", () -> x.belt(-1));
        c.due("of ask()", x.fault(), 4);
    }

    @Says(in = "Promise 4", value = "The place of the latest FAULT of belt(), ask()")
    static void noOtherCallChangesIt(Check c) {
        MergeBelts x = busy();
        x.image();
        Check.belt(x, "belt 3;");
        x.ticks(2);
        c.due("behind ticks()", x.fault(), 5);
        x.undo();
        c.due("behind undo()", x.fault(), 5);
        x.image();
        Check.ask(x, "many 1=1");
        x.back();
        c.due("behind back()", x.fault(), -1);
        Check.ask(x, "many");
        x.back();
        c.due("behind back()", x.fault(), 4);
    }
}
