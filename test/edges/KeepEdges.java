/** Boundary cases of Promises 27 and 28: what is kept, and given back. */
final class KeepEdges {
    private KeepEdges() {
    }

    private static MergeBelts busy() {
        MergeBelts x = Check.of("belt 6;exit 2 3;ware 0;side 0 3 4 2;side 4 3 5 1;comes 0 0 1 0;comes 1 0 2 0;turns late-credit;");
        x.ticks(6);
        return x;
    }

    @Says(in = "Promise 28", value = "false: nothing was kept.")
    static void nothingWasKept(Check c) {
        c.due("of a new object", !new MergeBelts().back());
        c.changesNothing(KeepEdges::busy, x -> c.due("back()", !x.back()));
    }

    @Says(in = "Promise 27", value = "All (but ACTS, the tape) is kept (instead of what was).")
    static void aNewObjectIsKept(Check c) {
        MergeBelts x = new MergeBelts();
        x.image();
        Check.belt(x, "belt 9;exit 0 1;");
        x.ticks(9);
        c.due("back()", x.back());
        c.due("all as in a new object", Look.of(x).equals(Look.of(new MergeBelts())));
    }

    @Says(in = "Promise 27", value = "All (but ACTS, the tape) is kept (instead of what was).")
    static void imageChangesNothing(Check c) {
        c.changesNothing(() -> {
            MergeBelts x = busy();
            Check.feed(x, "belt 9;");
            return x;
        }, MergeBelts::image);
    }

    @Says(in = "Promise 27", value = "(instead of what was)")
    static void onlyTheLatestIsKept(Check c) {
        MergeBelts x = new MergeBelts();
        x.ticks(1);
        x.image();
        x.ticks(1);
        x.image();
        x.ticks(1);
        c.due("back()", x.back());
        c.due("TICK", x.count(5), 2);
        c.due("back() again", x.back());
        c.due("TICK", x.count(5), 2);
    }

    @Says(in = "Promise 27", value = "All (but ACTS, the tape) is kept (instead of what was).")
    static void theTapeIsNotKept(Check c) {
        MergeBelts x = busy();
        Check.feed(x, "belt 9;");
        x.image();
        Check.feed(x, " ".repeat(20));
        x.back();
        c.due("count(14)", x.count(14), 40);
        x.belt(7);
        x.back();
        c.due("count(14) of an empty one", x.count(14), 0);
    }

    @Says(in = "Promise 28", value = "All is as it was kept (no ACTS are kept then): true")
    static void noActsAreKept(Check c) {
        MergeBelts x = busy();
        x.push(0, 0);
        x.image();
        c.due("image() leaves them", x.count(13), 2);
        for (int k = 0; k < 12; k++) {
            x.ticks(1);
        }
        x.back();
        c.due("count(13)", x.count(13), 0);
        c.due("undo()", x.undo(), -1);
        c.due("TICK", x.count(5), 6);
    }

    @Says(in = "Promise 28", value = "All is as it was kept (no ACTS are kept then): true")
    static void backAtOnce(Check c) {
        MergeBelts x = busy();
        x.image();
        c.due("back()", x.back());
        c.due("no ACTS", x.count(13), 0);
        c.due("all as it was", Look.of(x).equals(Look.of(busy())));
    }

    @Says(in = "Promise 28", value = "All is as it was kept (no ACTS are kept then): true")
    static void backManyTimes(Check c) {
        MergeBelts x = busy();
        x.image();
        for (int k = 1; k < 30; k++) {
            x.ticks(k);
            x.change(0, 0, 1 + k % 20);
            x.shut(0, k);
            c.due("back()", x.back());
        }
        c.due("all as it was", Look.of(x).equals(Look.of(busy())));
    }

    @Says(in = "Promise 28", value = "All is as it was kept (no ACTS are kept then): true")
    static void allRowsOfTheLogAreAsTheyWere(Check c) {
        MergeBelts x = busy();
        x.ticks(200);
        x.image();
        x.ticks(500);
        x.back();
        c.due("rows", x.count(12), 40);
        MergeBelts y = busy();
        y.ticks(200);
        for (int ago = 0; ago < 40; ago++) {
            c.due("TICK of log(" + ago + ", 0)", x.log(ago, 0), y.log(ago, 0));
        }
    }

    @Says(in = "Promise 28", value = "All is as it was kept (no ACTS are kept then): true")
    static void backToAnotherBelt(Check c) {
        MergeBelts x = busy();
        x.image();
        Check.belt(x, "belt 40;exit 39 1;exit 38 1;ware 1 urgent;side 39 20 39 9;turns side;");
        x.push(0, 0);
        x.ticks(3);
        c.due("back()", x.back());
        c.due("all as it was", Look.of(x).equals(Look.of(busy())));
        c.noSuch("place(6, 0)", () -> x.place(6, 0));
        c.noSuch("exit(1, 0)", () -> x.exit(1, 0));
    }

    @Says(in = "Promise 28", value = "All is as it was kept (no ACTS are kept then): true")
    static void whatComesThenIsTheSame(Check c) {
        MergeBelts x = busy();
        x.image();
        x.ticks(100);
        x.back();
        x.ticks(9);
        MergeBelts y = busy();
        y.ticks(9);
        c.due("TICKS go on from there", Look.of(x).equals(Look.of(y)));
        x.back();
        c.due("and what is kept stays as it is", Look.of(x).equals(Look.of(busy())));
    }

    @Says(in = "Promise 28", value = "All is as it was kept (no ACTS are kept then): true")
    static void undoDoesNotChangeWhatIsKept(Check c) {
        MergeBelts x = busy();
        x.image();
        c.due("undo() of the TICKS", x.undo(), 0);
        c.due("TICK", x.count(5), 0);
        x.back();
        c.due("all as it was", Look.of(x).equals(Look.of(busy())));
    }
}
