import java.util.NoSuchElementException;

/** What the tests share: feeding a text, and counting the answers that are not due. */
final class Check {
    interface Call {
        long answer();
    }

    interface Made {
        MergeBelts make();
    }

    interface Use {
        void of(MergeBelts x);
    }

    private int wrong;
    private int checks;

    int wrong() {
        return wrong;
    }

    int checks() {
        return checks;
    }

    void due(String what, long got, long want) {
        checks++;
        if (got != want) {
            wrong++;
            System.out.println(what + " answered " + got + ", due is " + want);
        }
    }

    void due(String what, boolean got) {
        due(what, got ? 1 : 0, 1);
    }

    void row(String what, int[] got, int... want) {
        due(what + ": how many", got.length, want.length);
        for (int k = 0; k < want.length && k < got.length; k++) {
            due(what + " [" + k + "]", got[k], want[k]);
        }
    }

    void noSuch(String what, Call call) {
        checks++;
        try {
            System.out.println(what + " answered " + call.answer() + ", due is NoSuchElementException");
        } catch (NoSuchElementException e) {
            return;
        }
        wrong++;
    }

    void illegal(String what, Call call) {
        checks++;
        try {
            System.out.println(what + " answered " + call.answer() + ", due is IllegalArgumentException");
        } catch (IllegalArgumentException e) {
            return;
        }
        wrong++;
    }

    /** A TEXT without a FAULT, as the first one of a new object. */
    void stands(String text, int n) {
        MergeBelts x = new MergeBelts();
        due("belt of " + text, belt(x, text), n);
        due("fault() of " + text, x.fault(), -1);
    }

    /** A TEXT with a FAULT at the sign behind '^', which is no part of it. */
    void refused(String marked, int kind) {
        refused(marked.replace("^", ""), kind, marked.indexOf('^'));
    }

    void refused(String text, int kind, int place) {
        MergeBelts x = new MergeBelts();
        due("belt of " + text, belt(x, text), -10 - kind);
        due("fault() of " + text, x.fault(), place);
    }

    /** A QUESTION without a FAULT. */
    void asked(MergeBelts x, String text, int answer) {
        due("ask of " + text, ask(x, text), answer);
        due("fault() of " + text, x.fault(), -1);
    }

    /** A QUESTION to a new object with a FAULT at the sign behind '^', which is no part of it. */
    void refusedAsk(String marked, int kind) {
        MergeBelts x = new MergeBelts();
        String text = marked.replace("^", "");
        due("ask of " + text, ask(x, text), -1000000000 - kind);
        due("fault() of " + text, x.fault(), marked.indexOf('^'));
    }

    /** Of two objects made the same way one has the calls too, which must change nothing that can be seen. */
    void changesNothing(Made made, Use calls) {
        MergeBelts x = made.make();
        MergeBelts y = made.make();
        calls.of(x);
        due("the tape", x.count(14), y.count(14));
        due("ACTS that are kept", x.count(13), y.count(13));
        due("fault()", x.fault(), y.fault());
        due("all else is as without these calls", Look.of(x).equals(Look.of(y)));
    }

    /** Feeds a text, the last twenty bytes filled up with blanks. */
    static void feed(MergeBelts x, String text) {
        for (int i = 0; i < text.length(); i += 20) {
            int[] n = new int[5];
            for (int k = 0; k < 20; k++) {
                int sign = i + k < text.length() ? text.charAt(i + k) : ' ';
                n[k / 4] = n[k / 4] << 8 | sign;
            }
            x.feed(n[0], n[1], n[2], n[3], n[4]);
        }
    }

    static int belt(MergeBelts x, String text) {
        feed(x, text);
        return x.belt(text.length());
    }

    static int ask(MergeBelts x, String text) {
        feed(x, text);
        return x.ask(text.length());
    }

    static MergeBelts of(String text) {
        MergeBelts x = new MergeBelts();
        int answer = belt(x, text);
        if (answer < 0) {
            throw new AssertionError(text + " answered " + answer + " at " + x.fault());
        }
        return x;
    }

    static void push(MergeBelts x, int times, int side, int ware) {
        for (int k = 0; k < times; k++) {
            x.push(side, ware);
        }
    }

    /** What all PLACES answer. */
    static int[] places(MergeBelts x, int what) {
        int[] row = new int[x.count(0)];
        for (int p = 0; p < row.length; p++) {
            row[p] = x.place(p, what);
        }
        return row;
    }

    /** Says how it went, and ends the program as the tests under ../shared/tests do. */
    void end(String name) {
        System.out.println(name + ": " + checks + " checks, " + wrong + " wrong");
        if (wrong != 0) {
            System.exit(1);
        }
    }
}
