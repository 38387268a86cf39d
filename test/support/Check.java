import java.util.NoSuchElementException;

/** What the tests share: feeding a text, and counting the answers that are not due. */
final class Check {
    interface Call {
        long answer();
    }

    private int wrong;
    private int checks;

    void due(String what, long got, long want) {
        checks++;
        if (got != want) {
            wrong++;
            System.out.println(what + " answered " + got + ", due is " + want);
        }
    }

    void due(String what, boolean got) {
        due(what, got ? 1 : 0, 1);
    }

    void noSuch(String what, Call call) {
        checks++;
        try {
            System.out.println(what + " answered " + call.answer() + ", due is NoSuchElementException");
        } catch (NoSuchElementException e) {
            return;
        }
        wrong++;
    }

    void illegal(String what, Call call) {
        checks++;
        try {
            System.out.println(what + " answered " + call.answer() + ", due is IllegalArgumentException");
        } catch (IllegalArgumentException e) {
            return;
        }
        wrong++;
    }

    /** Feeds a text, the last twenty bytes filled up with blanks. */
    static void feed(MergeBelts x, String text) {
        for (int i = 0; i < text.length(); i += 20) {
            int[] n = new int[5];
            for (int k = 0; k < 20; k++) {
                int sign = i + k < text.length() ? text.charAt(i + k) : ' ';
                n[k / 4] = n[k / 4] << 8 | sign;
            }
            x.feed(n[0], n[1], n[2], n[3], n[4]);
        }
    }

    static int belt(MergeBelts x, String text) {
        feed(x, text);
        return x.belt(text.length());
    }

    static int ask(MergeBelts x, String text) {
        feed(x, text);
        return x.ask(text.length());
    }

    static MergeBelts of(String text) {
        MergeBelts x = new MergeBelts();
        int answer = belt(x, text);
        if (answer < 0) {
            throw new AssertionError(text + " answered " + answer + " at " + x.fault());
        }
        return x;
    }

    /** Says how it went, and ends the program as the tests under ../shared/tests do. */
    void end(String name) {
        System.out.println(name + ": " + checks + " checks, " + wrong + " wrong");
        if (wrong != 0) {
            System.exit(1);
        }
    }
}
