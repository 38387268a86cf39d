/** Boundary cases of a new object, and of the last call that is promised. */
final class NewEdges {
    private NewEdges() {
    }

    @Says(in = "What it is", value = "An object is used for at most 512 calls after it has been made")
    static void theLastCallThatIsPromised(Check c) {
        MergeBelts x = new MergeBelts();
        for (int k = 1; k < 512; k++) {
            c.due("call " + k, x.ticks(500), 0);
        }
        c.due("call 512", x.count(5), 511 * 500);
    }

    @Says(in = "What it is", value = "An object is used for at most 512 calls after it has been made")
    static void theLastCallBehindABusyRun(Check c) {
        MergeBelts x = Check.of("belt 4;exit 1 1;ware 0;side 0 1 0 1;comes 0 0 1 0;");
        for (int k = 5; k < 511; k++) {
            c.due("call " + k, x.ticks(500), k == 5 ? 499 : 500);
        }
        c.due("call 511: TICK", x.count(5), 506 * 500);
        c.due("call 512: TAKEN ever", x.count(10), 506 * 500 - 1);
    }

    @Says(in = "Terms 3", value = "The constants: `NONE = -1`: There is none.")
    static void noneIsOneBelow0(Check c) {
        c.due("NONE", MergeBelts.NONE, -1);
    }

    @Says(in = "Promise 1", value = "A BELT of 4 PLACES, without all else.")
    static void fourPlaces(Check c) {
        MergeBelts x = new MergeBelts();
        c.due("count(0)", x.count(0), 4);
        c.due("place(3, 0)", x.place(3, 0), -1);
        c.noSuch("place(4, 0)", () -> x.place(4, 0));
    }

    @Says(in = "Promise 1", value = "A BELT of 4 PLACES, without all else.")
    static void noExit(Check c) {
        MergeBelts x = new MergeBelts();
        c.due("count(1)", x.count(1), 0);
        c.noSuch("exit(0, 0)", () -> x.exit(0, 0));
        c.noSuch("shut(0, 0)", () -> x.shut(0, 0));
        c.noSuch("rate(0, 0)", () -> x.rate(0, 0));
    }

    @Says(in = "Promise 1", value = "A BELT of 4 PLACES, without all else.")
    static void noWare(Check c) {
        MergeBelts x = new MergeBelts();
        c.due("count(2)", x.count(2), 0);
        c.noSuch("ware(0, 0)", () -> x.ware(0, 0));
        c.due("push(0, 0)", x.push(0, 0), -1);
    }

    @Says(in = "Promise 1", value = "A BELT of 4 PLACES, without all else.")
    static void noSide(Check c) {
        MergeBelts x = new MergeBelts();
        c.due("count(3)", x.count(3), 0);
        c.noSuch("side(0, 0)", () -> x.side(0, 0));
        c.noSuch("waiting(0, 0)", () -> x.waiting(0, 0));
        c.noSuch("change(0, 0, 1)", () -> x.change(0, 0, 1));
        c.noSuch("leastRoom(0, 1)", () -> x.leastRoom(0, 1));
        c.noSuch("bestReach(0, 1)", () -> x.bestReach(0, 1));
        c.noSuch("without(0, 0)", () -> x.without(0, 0));
    }

    @Says(in = "Promise 1", value = "A BELT of 4 PLACES, without all else.")
    static void noComing(Check c) {
        MergeBelts x = new MergeBelts();
        c.due("count(4)", x.count(4), 0);
        c.noSuch("coming(0, 0)", () -> x.coming(0, 0));
    }

    @Says(in = "Promise 1", value = "A BELT of 4 PLACES, without all else.")
    static void nothingHappenedYet(Check c) {
        MergeBelts x = new MergeBelts();
        for (int what = 5; what < 16; what++) {
            c.due("count(" + what + ")", x.count(what), what == 8 ? 4 : 0);
        }
        c.noSuch("log(0, 0)", () -> x.log(0, 0));
        c.due("fault()", x.fault(), -1);
        c.due("undo()", x.undo(), -1);
        c.due("back()", !x.back());
    }

    @Says(in = "Promise 1", value = "A BELT of 4 PLACES, without all else.")
    static void whatItCouldBear(Check c) {
        MergeBelts x = new MergeBelts();
        c.due("trial(500, 0)", x.trial(500, 0), 0);
        c.due("trial(500, 4)", x.trial(500, 4), 0);
        c.due("again(0)", x.again(0), 0);
        c.due("again(1)", x.again(1), 1);
        for (int what = 0; what < 3; what++) {
            c.due("rate(" + what + ", NONE)", x.rate(what, -1), 0);
        }
        c.due("load(3, false)", x.load(3, false), 0);
        c.due("load(3, true)", x.load(3, true), 1);
        c.due("heaviest()", x.heaviest(), 0);
    }

    @Says(in = "Terms 1", value = "TICKS are counted from 0 on: at first TICK is 0, all is free, nobody waits.")
    static void atFirst(Check c) {
        MergeBelts x = Check.of("belt 5;exit 0 1;ware 0;side 0 1 0 1;comes 0 0 1 0;");
        c.due("TICK", x.count(5), 0);
        c.due("free PLACES", x.count(8), 5);
        c.row("WARES at PLACES", Check.places(x, 0), -1, -1, -1, -1, -1);
        c.row("for whom they are RESERVED", Check.places(x, 4), -1, -1, -1, -1, -1);
        c.due("who waits", x.count(9), 0);
        x.ticks(1);
        c.due("TICK behind the first", x.count(5), 1);
    }
}
