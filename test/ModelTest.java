import java.util.ArrayList;
import java.util.List;
import java.util.NoSuchElementException;
import java.util.Random;

/** Long runs of calls, drawn with fixed seeds, answered by the class and by PlainBelt: all answers must be the same. */
public final class ModelTest {
    private interface Call<T> {
        long on(T object);
    }

    private final Random random;
    private final List<String> history = new ArrayList<>();
    private final MergeBelts real = new MergeBelts();
    private final PlainBelt plain = new PlainBelt();
    private static final int[] KINDS = new int[40];

    private ModelTest(long seed) {
        random = new Random(seed);
    }

    public static void main(String[] args) {
        int runs = args.length > 0 ? Integer.parseInt(args[0]) : 600;
        int wrong = 0;
        for (int seed = 0; seed < runs && wrong < 5; seed++) {
            wrong += new ModelTest(seed).run(seed) ? 0 : 1;
        }
        System.out.println("ModelTest: " + runs + " runs, " + wrong + " wrong, calls by kind " + java.util.Arrays.toString(KINDS));
        if (wrong != 0) {
            System.exit(1);
        }
    }

    private boolean run(int seed) {
        for (int k = 0; k < 300; k++) {
            if (!step(k)) {
                System.out.println("seed " + seed + ":\n  " + String.join("\n  ", history));
                return false;
            }
        }
        return true;
    }

    private boolean same(String name, Call<MergeBelts> a, Call<PlainBelt> b) {
        String got = answer(a, real);
        String want = answer(b, plain);
        history.add(name + " -> " + got);
        if (!got.equals(want)) {
            history.add("due is " + want);
        }
        return got.equals(want);
    }

    private static <T> String answer(Call<T> call, T object) {
        try {
            return Long.toString(call.on(object));
        } catch (NoSuchElementException | IllegalArgumentException e) {
            return e.getClass().getSimpleName();
        }
    }

    private int up(int bound) {
        return random.nextInt(bound);
    }

    private int between(int least, int most) {
        return least + up(most - least + 1);
    }

    /** Mostly in, now and then just out of 0 to size - 1. */
    private int index(int size) {
        return up(12) == 0 ? (up(2) == 0 ? -1 - up(2) : size + up(2)) : size == 0 ? 0 : up(size);
    }

    private boolean feed(String text) {
        boolean fine = true;
        for (int i = 0; i < text.length(); i += 20) {
            int[] n = new int[5];
            for (int k = 0; k < 20; k++) {
                n[k / 4] = n[k / 4] << 8 | (i + k < text.length() ? text.charAt(i + k) : " \n;1".charAt(up(4)));
            }
            fine &= same("feed", x -> x.feed(n[0], n[1], n[2], n[3], n[4]), x -> x.feed(n[0], n[1], n[2], n[3], n[4]));
        }
        return fine;
    }

    private boolean belt() {
        String text = spoiled(plainText());
        int length = Math.min(text.length(), 500) + (up(20) == 0 ? up(30) - 10 : 0);
        return feed(text) & same("belt(" + length + ") " + text, x -> x.belt(length), x -> x.belt(length))
            & same("fault()", x -> x.fault(), x -> x.fault());
    }

    /** Most runs should have something to move. */
    private boolean startingBelt() {
        boolean fine = true;
        for (int tries = 0; fine && tries < 20 && (plain.sides.isEmpty() || plain.wares.isEmpty()); tries++) {
            fine = belt();
        }
        return fine;
    }

    private boolean ask() {
        String text = spoiled((up(2) == 0 ? "many " : "first ") + test(0));
        int length = text.length() + (up(20) == 0 ? up(30) - 10 : 0);
        return feed(text) & same("ask(" + length + ") " + text, x -> x.ask(length), x -> x.ask(length))
            & same("fault()", x -> x.fault(), x -> x.fault());
    }

    private String spoiled(String text) {
        StringBuilder s = new StringBuilder(text);
        if (up(6) == 0) {
            for (int k = up(3); k >= 0 && s.length() > 0; k--) {
                int i = up(s.length());
                switch (up(3)) {
                    case 0: s.deleteCharAt(i); break;
                    case 1: s.setCharAt(i, " ;(){}9a+\u00e9".charAt(up(10))); break;
                    default: s.insert(i, " ;(){}9a*\n".charAt(up(10)));
                }
            }
        }
        return s.toString();
    }

    private String plainText() {
        int n = up(15) == 0 ? between(0, 45) : up(2) == 0 ? between(4, 12) : between(4, 40);
        StringBuilder s = new StringBuilder("belt " + n + ";");
        int exits = up(10) == 0 ? between(0, 7) : between(1, 3);
        int wares = up(10) == 0 ? between(0, 9) : between(1, 4);
        int sides = up(10) == 0 ? between(0, 7) : between(1, 4);
        int comings = up(10) == 0 ? between(0, 13) : between(0, 6);
        List<Integer> at = new ArrayList<>();
        for (int p = 0; p < n; p++) {
            at.add(p);
        }
        java.util.Collections.shuffle(at, random);
        for (int k = 0; k < exits; k++) {
            s.append("exit ").append(up(30) == 0 || k >= n ? index(n + 1) + 1 : at.get(k)).append(' ').append(paceOr(9)).append(';');
        }
        for (int k = 0; k < wares; k++) {
            s.append("ware ").append(up(60) == 0 ? exits : up(Math.max(1, exits))).append(up(3) == 0 ? " urgent;" : ";");
        }
        java.util.Collections.shuffle(at, random);
        for (int k = 0; k < sides; k++) {
            s.append("side ").append(up(30) == 0 || k >= n ? index(n + 1) + 1 : at.get(k)).append(' ').append(between(1, up(3) == 0 ? 20 : 4))
                .append(' ').append(n == 0 ? 0 : up(n)).append(' ').append(paceOr(9)).append(';');
        }
        int busy = between(1, 30);
        for (int k = 0; k < comings; k++) {
            s.append("comes ").append(up(60) == 0 ? sides : up(Math.max(1, sides))).append(' ').append(up(Math.max(1, wares))).append(' ')
                .append(between(1, busy)).append(' ').append(up(8) == 0 ? up(400) : up(20)).append(';');
            if (up(25) == 0) {
                s.append("exit ").append(up(Math.max(1, n))).append(" 1;");
            }
        }
        for (int k = up(5); k > 2; k--) {
            s.append("turns ").append(sum(0)).append(';');
        }
        return s.length() > 500 ? s.substring(0, 500) : s.toString();
    }

    private int paceOr(int most) {
        return up(40) == 0 ? up(2) * (most + 1) : up(2) == 0 ? between(1, 2) : between(1, most);
    }

    private String sum(int depth) {
        StringBuilder s = new StringBuilder(part(depth));
        for (int k = up(4); k > 0; k--) {
            s.append("+-*".charAt(up(3))).append(up(3) == 0 ? " " : "").append(part(depth));
        }
        return s.toString();
    }

    private String part(int depth) {
        if (up(4) == 0 && depth < 7) {
            return up(6) == 0 ? "((((".substring(up(4)) + sum(depth + 3) + "))))".substring(up(4)) : "(" + sum(depth + 1) + ")";
        }
        String[] words = {"credit", "share", "waits", "room", "held", "late", "urgent", "side"};
        return up(4) == 0 ? Integer.toString(up(3) == 0 ? up(10001) : up(9)) : words[up(8)];
    }

    private String test(int depth) {
        StringBuilder s = new StringBuilder(fact(depth));
        for (int k = up(3); k > 0; k--) {
            s.append(up(2) == 0 ? " and " : " or ").append(fact(depth));
        }
        return s.toString();
    }

    private String fact(int depth) {
        if (up(3) == 0 && depth < 8) {
            return up(2) == 0 ? "not " + fact(depth + 1) : "{" + test(depth + 1) + "}";
        }
        return value() + "<=>".charAt(up(3)) + value();
    }

    private String value() {
        String[] words = {"place", "ware", "from", "round", "rides", "held", "exit", "side"};
        return up(3) == 0 ? Integer.toString(up(40) == 0 ? 9999 + up(2) : up(8)) : words[up(8)];
    }

    private boolean step(int k) {
        int kind = k == 0 ? 0 : up(40);
        KINDS[kind]++;
        int e = index(plain.exits.size());
        int s = index(plain.sides.size());
        int w = index(plain.wares.size());
        switch (kind) {
            case 0: return k == 0 ? startingBelt() : up(3) != 0 || belt();
            case 1: case 2: return ask();
            case 3: case 4: case 5: case 6: case 7: case 8: {
                int n = up(12) == 0 ? index(501) : between(1, up(3) == 0 ? 60 : 6);
                return same("ticks(" + n + ")", x -> x.ticks(n), x -> x.ticks(n));
            }
            case 9: case 10: case 11: case 12: case 13:
                return same("push(" + s + ", " + w + ")", x -> x.push(s, w), x -> x.push(s, w));
            case 14: case 15: {
                int n = up(12) == 0 ? index(1000) : up(20);
                return same("shut(" + e + ", " + n + ")", x -> x.shut(e, n), x -> x.shut(e, n));
            }
            case 16: case 17: {
                int what = index(3);
                int v = up(25);
                return same("change(" + s + ", " + what + ", " + v + ")", x -> x.change(s, what, v), x -> x.change(s, what, v));
            }
            case 18: case 19: return same("undo()", x -> x.undo(), x -> x.undo());
            case 20: if (up(3) == 0) { real.image(); plain.image(); history.add("image"); } return true;
            case 21: return up(4) != 0 || same("back()", x -> x.back() ? 1 : 0, x -> x.back() ? 1 : 0)
                & same("fault()", x -> x.fault(), x -> x.fault());
            default: return look(kind, e, s, w);
        }
    }

    private boolean look(int kind, int e, int s, int w) {
        int n = up(12) == 0 ? index(501) : up(80);
        int what = index(5);
        int place = index(plain.n);
        int k = index(6);
        switch (kind) {
            case 22: return same("trial(" + n + ", " + what + ")", x -> x.trial(n, what), x -> x.trial(n, what));
            case 23: return same("again(" + k + ")", x -> x.again(k % 3), x -> x.again(k % 3));
            case 24: {
                int i = up(3) == 0 ? -1 : up(2) == 0 ? e : s;
                return same("rate(" + k % 4 + ", " + i + ")", x -> x.rate(k % 4, i), x -> x.rate(k % 4, i));
            }
            case 25: return same("load(" + place + ")", x -> x.load(place, false), x -> x.load(place, false))
                & same("load(" + place + ", lower)", x -> x.load(place, true), x -> x.load(place, true));
            case 26: return same("heaviest()", x -> x.heaviest(), x -> x.heaviest());
            case 27: return same("leastRoom(" + s + ", " + n + ")", x -> x.leastRoom(s, n), x -> x.leastRoom(s, n));
            case 28: return same("bestReach(" + s + ", " + n / 2 + ")", x -> x.bestReach(s, n / 2), x -> x.bestReach(s, n / 2));
            case 29: return same("without(" + s + ", " + n + ")", x -> x.without(s, n), x -> x.without(s, n));
            case 30: case 31: return all();
            case 32: return same("log(" + n + ", " + what + ")", x -> x.log(n, what), x -> x.log(n, what));
            case 33: return same("coming(" + k + ", " + what + ")", x -> x.coming(k, what), x -> x.coming(k, what));
            case 34: return same("waiting(" + s + ", " + k + ")", x -> x.waiting(s, k), x -> x.waiting(s, k));
            case 35: return same("ware(" + w + ", " + what + ")", x -> x.ware(w, what), x -> x.ware(w, what));
            case 36: return same("exit(" + e + ", " + k + ")", x -> x.exit(e, k), x -> x.exit(e, k));
            case 37: return same("place(" + place + ", " + what + ")", x -> x.place(place, what), x -> x.place(place, what));
            case 38: {
                int one = index(14);
                return same("side(" + s + ", " + one + ")", x -> x.side(s, one), x -> x.side(s, one));
            }
            default: {
                int one = index(16);
                return same("count(" + one + ")", x -> x.count(one), x -> x.count(one));
            }
        }
    }

    /** All that can be seen of the belt now. */
    private boolean all() {
        boolean fine = same("fault()", x -> x.fault(), x -> x.fault());
        for (int i = 0; i < 40; i++) {
            for (int j = 0; j < 17; j++) {
                int a = i;
                int b = j;
                fine &= i > 0 || same("count(" + b + ")", x -> x.count(b), x -> x.count(b));
                fine &= j > 5 || same("place(" + a + ", " + b + ")", x -> x.place(a, b), x -> x.place(a, b));
                fine &= i > 6 || j > 6 || same("exit(" + a + ", " + b + ")", x -> x.exit(a, b), x -> x.exit(a, b));
                fine &= i > 8 || j > 5 || same("ware(" + a + ", " + b + ")", x -> x.ware(a, b), x -> x.ware(a, b));
                fine &= i > 6 || j > 14 || same("side(" + a + ", " + b + ")", x -> x.side(a, b), x -> x.side(a, b));
                fine &= j > 6 || i > 20 || same("waiting(" + b + ", " + a + ")", x -> x.waiting(b, a), x -> x.waiting(b, a));
                fine &= i > 12 || j > 5 || same("coming(" + a + ", " + b + ")", x -> x.coming(a, b), x -> x.coming(a, b));
                fine &= j > 7 || same("log(" + a + ", " + b + ")", x -> x.log(a, b), x -> x.log(a, b));
            }
            if (!fine) {
                return false;
            }
        }
        return fine;
    }
}
