/** Promises 13 to 17, 27 and 28: ACTS, undone one by one; what was kept. */
public final class ActsTest {
    private static final Check C = new Check();
    private static final String TEXT = "belt 6;exit 3 2;exit 5 1;ware 0;ware 1 urgent;side 0 3 2 1;side 4 2 5 9;comes 0 0 3 1;";

    public static void main(String[] args) {
        ticks();
        push();
        shut();
        change();
        undo();
        image();
        faultBehindBack();
        C.end("ActsTest");
    }

    private static void ticks() {
        MergeBelts x = Check.of(TEXT);
        String before = Look.of(x);
        C.illegal("ticks(0)", () -> x.ticks(0));
        C.illegal("ticks(-1)", () -> x.ticks(-1));
        C.illegal("ticks(501)", () -> x.ticks(501));
        C.due("nothing changes", Look.of(x).equals(before));
        C.due("no ACT", x.count(13), 0);
        C.due("ticks(1)", x.ticks(1), 0);
        C.due("TICK", x.count(5), 1);
        C.due("ticks(500): one comes in TICKS 1, 4, .., 499; all till 496 come to the EXIT by TICK 500", x.ticks(500), 166);
        C.due("TICK", x.count(5), 501);
        C.due("ACTS", x.count(13), 2);
        C.due("TAKEN in these alone", x.ticks(3), 1);
    }

    private static void push() {
        MergeBelts x = Check.of(TEXT);
        C.due("push(0, 0)", x.push(0, 0), 1);
        C.due("push(0, 1)", x.push(0, 1), 2);
        C.due("push(0, 0)", x.push(0, 0), 3);
        C.due("ROOM ITEMS wait there", x.push(0, 0), -1);
        C.due("no such SIDE", x.push(2, 0), -1);
        C.due("no such SIDE", x.push(-1, 0), -1);
        C.due("no such WARE", x.push(1, 2), -1);
        C.due("no such WARE", x.push(1, -1), -1);
        C.due("three ACTS", x.count(13), 3);
        C.due("in order", x.waiting(0, 0) * 100 + x.waiting(0, 1) * 10 + x.waiting(0, 2), 10);
        C.due("urgent", x.side(0, 8), 1);
        C.due("late", x.side(0, 7), 0);
        C.due("ware(0, 3)", x.ware(0, 3), 2);
        C.due("none is LOST", x.count(11), 0);
    }

    private static void shut() {
        MergeBelts x = Check.of(TEXT);
        C.noSuch("shut(2, 1)", () -> x.shut(2, 1));
        C.noSuch("shut(-1, 1)", () -> x.shut(-1, 1));
        C.noSuch("NoSuchElementException is first", () -> x.shut(2, 1000));
        C.illegal("shut(0, 1000)", () -> x.shut(0, 1000));
        C.illegal("shut(0, -1)", () -> x.shut(0, -1));
        C.due("no ACT", x.count(13), 0);
        C.due("it wasn't", x.shut(0, 999), 0);
        C.due("for how many it was", x.shut(0, 6), 999);
        x.ticks(2);
        C.due("less by the TICKS", x.exit(0, 2), 4);
        C.due("the other one isn't", x.exit(1, 2), 0);
        C.due("the ITEM of TICK 1 passes in TICK 4; that of TICK 4 is TAKEN in TICK 7", x.ticks(6), 1);
        C.due("TICK", x.log(0, 0), 7);
        C.due("it isn't any more", x.exit(0, 2), 0);
        x.shut(0, 1);
        x.shut(0, 0);
        C.due("opened: the first comes round in TICK 10", x.ticks(3), 1);
        C.due("its ROUNDS", x.log(0, 6), 1);
        C.due("ACTS", x.count(13), 7);
    }

    private static void change() {
        MergeBelts x = Check.of(TEXT);
        C.noSuch("no SIDE", () -> x.change(2, 0, 1));
        C.noSuch("no SIDE", () -> x.change(-1, 0, 1));
        C.noSuch("another what", () -> x.change(0, 3, 1));
        C.noSuch("another what", () -> x.change(0, -1, 1));
        C.noSuch("NoSuchElementException is first", () -> x.change(0, 3, -7));
        for (int[] wrong : new int[][] {{0, 0}, {0, 21}, {1, -1}, {1, 6}, {2, 0}, {2, 10}}) {
            C.illegal("change(0, " + wrong[0] + ", " + wrong[1] + ")", () -> x.change(0, wrong[0], wrong[1]));
        }
        C.due("no ACT", x.count(13), 0);
        C.due("ROOM", x.change(0, 0, 20), 3);
        C.due("ROOM", x.change(0, 0, 1), 20);
        C.due("REACH", x.change(0, 1, 5), 2);
        C.due("REACH", x.change(0, 1, 0), 5);
        C.due("SHARE", x.change(0, 2, 9), 1);
        C.due("SHARE", x.change(1, 2, 1), 9);
        C.due("ACTS", x.count(13), 6);
        C.due("now", x.side(0, 1) * 100 + x.side(0, 2) * 10 + x.side(0, 3), 109);
        MergeBelts y = Check.of(TEXT);
        y.push(0, 0);
        y.push(0, 0);
        y.push(0, 0);
        y.change(0, 0, 1);
        C.due("who waits stays", y.side(0, 4), 3);
        C.due("but nobody comes behind", y.push(0, 0), -1);
        y.ticks(2);
        C.due("one LOST in TICK 1, when two waited", y.side(0, 12), 1);
        C.due("two went", y.side(0, 10), 2);
    }

    private static void undo() {
        MergeBelts x = Check.of(TEXT);
        String[] before = new String[16];
        for (int k = 0; k < 16; k++) {
            before[k] = Look.of(x);
            switch (k % 4) {
                case 0: x.push(k / 4 % 2, 1); break;
                case 1: x.ticks(1 + k); break;
                case 2: x.shut(0, k); break;
                default: x.change(1, k / 4 % 3, 2);
            }
            C.due("ACTS that are kept", x.count(13), Math.min(10, k + 1));
        }
        for (int k = 15; k > 5; k--) {
            Check.ask(x, "many x");
            C.due("undo()", x.undo(), k - 6);
            C.due("all is as ahead of ACT " + k, Look.of(x).equals(before[k]));
            C.due("no FAULT is undone", x.fault(), 5);
        }
        C.due("none can", x.undo(), -1);
        C.due("nothing changes", Look.of(x).equals(before[6]));
        x.push(1, 0);
        C.due("one more", x.undo(), 0);
        C.due("and back", Look.of(x).equals(before[6]));
    }

    private static void image() {
        MergeBelts x = Check.of(TEXT);
        C.due("nothing was kept", !x.back());
        x.ticks(7);
        Check.ask(x, "many  place");
        Check.feed(x, "belt 9;");
        String kept = Look.of(x);
        x.image();
        C.due("ACTS stay", x.count(13), 1);
        C.due("the tape stays", x.count(14), 20);
        C.due("undo behind image()", x.undo(), 0);
        x.push(0, 0);
        C.due("another belt", x.belt(7), 9);
        C.due("its fault()", x.fault(), -1);
        Check.feed(x, "1");
        x.ticks(3);
        C.due("back()", x.back());
        C.due("all is as it was kept", Look.of(x).equals(kept));
        C.due("but fault() is of the latest belt() or ask()", x.fault(), -1);
        C.due("not the tape", x.count(14), 20);
        C.due("no ACTS are kept", x.count(13), 0);
        C.due("none can be UNDONE", x.undo(), -1);
        x.ticks(9);
        C.due("back() again", x.back());
        C.due("all is as it was kept, again", Look.of(x).equals(kept));
        x.ticks(1);
        String second = Look.of(x);
        x.image();
        x.ticks(1);
        C.due("back() to the second", x.back());
        C.due("instead of what was", Look.of(x).equals(second));
    }

    /** Promise 4: the latest FAULT is of belt() and ask() alone, so that back() neither brings nor takes one. */
    private static void faultBehindBack() {
        MergeBelts x = Check.of(TEXT);
        C.due("nothing was kept", !x.back());
        C.due("none yet", x.fault(), -1);
        x.image();
        Check.ask(x, "many x");
        C.due("a FAULT of ask()", x.fault(), 5);
        x.image();
        C.due("image() leaves it", x.fault(), 5);
        C.due("ask() without a FAULT", Check.ask(x, "many 1=1"), 6);
        C.due("back()", x.back());
        C.due("ask() had none", x.fault(), -1);
        Check.belt(x, "belt 50;");
        C.due("back()", x.back());
        C.due("the FAULT of belt() stays", x.fault(), 5);
        C.illegal("belt(1)", () -> x.belt(1));
        C.due("back() again", x.back());
        C.due("and behind an IllegalArgumentException", x.fault(), 5);
        C.due("belt() without a FAULT", Check.belt(x, "belt 7;"), 7);
        C.due("back() to ahead of it", x.back());
        C.due("the BELT that was kept", x.count(0), 6);
        C.due("belt() had none", x.fault(), -1);
    }
}
