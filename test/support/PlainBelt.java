import java.util.ArrayDeque;
import java.util.ArrayList;
import java.util.Collections;
import java.util.Deque;
import java.util.List;
import java.util.NoSuchElementException;

/** A second, plain working of the document for the tests: lists, objects that are copied, no care for speed. */
final class PlainBelt {
    private static final class Item {
        int ware;
        int side;
        int came;
        int went;
        int rounds;

        Item copy() {
            Item i = new Item();
            i.ware = ware;
            i.side = side;
            i.came = came;
            i.went = went;
            i.rounds = rounds;
            return i;
        }
    }

    /** Of a SIDE: what ACTS and TICKS change. */
    private static final class Side {
        int place;
        int room;
        int reach;
        int share;
        int credit;
        int gone;
        int taken;
        int lost;
        int longest;
        List<Item> queue = new ArrayList<>();
    }

    int n = 4;
    List<int[]> exits = new ArrayList<>();
    List<int[]> wares = new ArrayList<>();
    List<int[]> sides = new ArrayList<>();
    List<int[]> comings = new ArrayList<>();
    PlainText.Worth turns;
    boolean asksLate;

    private int tick;
    private Item[] items = new Item[4];
    private int[] heldFor = {-1, -1, -1, -1};
    private List<Side> at = new ArrayList<>();
    private int[] lastTaken = {};
    private int[] shutFor = {};
    private int[] takenAt = {};
    private int[] takenOf = {};
    private List<int[]> log = new ArrayList<>();
    private int fault = -1;
    private int without = -1;
    private String tape = "";
    private Deque<PlainBelt> acts = new ArrayDeque<>();
    private PlainBelt kept;

    private PlainBelt copy() {
        PlainBelt b = new PlainBelt();
        b.adopt(this);
        return b;
    }

    private void adopt(PlainBelt o) {
        n = o.n;
        exits = o.exits;
        wares = o.wares;
        sides = o.sides;
        comings = o.comings;
        turns = o.turns;
        asksLate = o.asksLate;
        tick = o.tick;
        items = new Item[n];
        for (int p = 0; p < n; p++) {
            items[p] = o.items[p] == null ? null : o.items[p].copy();
        }
        heldFor = o.heldFor.clone();
        at = new ArrayList<>();
        for (Side s : o.at) {
            Side c = new Side();
            c.place = s.place;
            c.room = s.room;
            c.reach = s.reach;
            c.share = s.share;
            c.credit = s.credit;
            c.gone = s.gone;
            c.taken = s.taken;
            c.lost = s.lost;
            c.longest = s.longest;
            for (Item i : s.queue) {
                c.queue.add(i.copy());
            }
            at.add(c);
        }
        lastTaken = o.lastTaken.clone();
        shutFor = o.shutFor.clone();
        takenAt = o.takenAt.clone();
        takenOf = o.takenOf.clone();
        log = new ArrayList<>(o.log);
    }

    private void begin() {
        items = new Item[n];
        heldFor = new int[n];
        java.util.Arrays.fill(heldFor, -1);
        for (int[] s : sides) {
            Side side = new Side();
            side.place = s[0];
            side.room = s[1];
            side.reach = s[2];
            side.share = s[3];
            at.add(side);
        }
        lastTaken = new int[exits.size()];
        java.util.Arrays.fill(lastTaken, -1000);
        shutFor = new int[exits.size()];
        takenAt = new int[exits.size()];
        takenOf = new int[wares.size()];
    }

    // the ticks

    private int held(int side) {
        int held = 0;
        for (int h : heldFor) {
            held += h == side ? 1 : 0;
        }
        return held;
    }

    private boolean free(int p) {
        return items[p] == null && heldFor[p] == -1;
    }

    private int late(int side) {
        return at.get(side).queue.isEmpty() ? 0 : tick - at.get(side).queue.get(0).came;
    }

    private int urgent(int side) {
        return (int) at.get(side).queue.stream().filter(i -> wares.get(i.ware)[1] == 1).count();
    }

    private int rank(int side) {
        Side s = at.get(side);
        if (turns == null) {
            return s.credit;
        }
        return turns.of(name -> switch (name) {
            case "credit" -> s.credit;
            case "share" -> s.share;
            case "waits" -> s.queue.size();
            case "room" -> s.room;
            case "held" -> held(side);
            case "late" -> late(side);
            case "urgent" -> urgent(side);
            default -> side;
        });
    }

    private void join(int side, int ware) {
        Item i = new Item();
        i.ware = ware;
        i.side = side;
        i.came = tick;
        at.get(side).queue.add(i);
    }

    private void tick() {
        for (int[] c : comings) {
            if (c[0] == without || tick < c[3] || (tick - c[3]) % c[2] != 0) {
                continue;
            }
            if (at.get(c[0]).queue.size() >= at.get(c[0]).room) {
                at.get(c[0]).lost++;
            } else {
                join(c[0], c[1]);
            }
        }
        Item lastItem = items[n - 1];
        int lastHeld = heldFor[n - 1];
        for (int p = n - 1; p > 0; p--) {
            items[p] = items[p - 1];
            heldFor[p] = heldFor[p - 1];
        }
        items[0] = lastItem;
        heldFor[0] = lastHeld;
        if (lastItem != null) {
            lastItem.rounds++;
        }
        for (int e = 0; e < exits.size(); e++) {
            Item i = items[exits.get(e)[0]];
            if (i != null && wares.get(i.ware)[0] == e && shutFor[e] == 0 && tick - lastTaken[e] >= exits.get(e)[1]) {
                items[exits.get(e)[0]] = null;
                lastTaken[e] = tick;
                takenAt[e]++;
                takenOf[i.ware]++;
                at.get(i.side).taken++;
                log.add(0, new int[] {tick, e, i.ware, i.side, i.went - i.came, tick - i.went, i.rounds});
            }
        }
        for (int k = 0; k < at.size(); k++) {
            Side s = at.get(k);
            if (items[s.place] != null || heldFor[s.place] != -1 && heldFor[s.place] != k) {
                continue;
            }
            heldFor[s.place] = -1;
            if (!s.queue.isEmpty()) {
                Item i = s.queue.remove(0);
                i.went = tick;
                items[s.place] = i;
                s.gone++;
                s.longest = Math.max(s.longest, i.went - i.came);
            }
        }
        while (takeTurn()) {
            continue;
        }
        tick++;
        for (int e = 0; e < shutFor.length; e++) {
            shutFor[e] = Math.max(0, shutFor[e] - 1);
        }
    }

    private int gap(int side) {
        for (int k = 1; k <= at.get(side).reach; k++) {
            int p = Math.floorMod(at.get(side).place - k, n);
            if (free(p)) {
                return p;
            }
        }
        return -1;
    }

    private boolean takeTurn() {
        List<Integer> might = new ArrayList<>();
        for (int k = 0; k < at.size(); k++) {
            if (at.get(k).queue.size() > held(k) && gap(k) != -1) {
                might.add(k);
            }
        }
        if (might.isEmpty()) {
            return false;
        }
        int chosen = Collections.max(might, (a, b) -> rank(a) != rank(b) ? Integer.compare(rank(a), rank(b)) : b - a);
        heldFor[gap(chosen)] = chosen;
        int all = 0;
        for (int k : might) {
            at.get(k).credit += at.get(k).share;
            all += at.get(k).share;
        }
        at.get(chosen).credit -= all;
        return true;
    }

    private PlainBelt after(int ticks) {
        PlainBelt b = copy();
        b.run(ticks);
        return b;
    }

    private void run(int ticks) {
        for (int k = 0; k < ticks; k++) {
            tick();
        }
    }

    private int due(int[] c) {
        for (int k = 0;; k++) {
            if (tick + k >= c[3] && (tick + k - c[3]) % c[2] == 0) {
                return k;
            }
        }
    }

    private int mayTake(int e) {
        return Math.max(0, lastTaken[e] + exits.get(e)[1] - tick);
    }

    /** All that AGAIN asks for, as a text. */
    private String look() {
        StringBuilder s = new StringBuilder();
        for (int p = 0; p < n; p++) {
            s.append(items[p] == null ? "-" : items[p].ware + "/" + items[p].side).append(heldFor[p]).append(' ');
        }
        for (Side side : at) {
            for (Item i : side.queue) {
                s.append(i.ware).append(asksLate ? "@" + (tick - i.came) : "").append(',');
            }
            s.append(side.credit).append(';');
        }
        for (int e = 0; e < exits.size(); e++) {
            s.append(shutFor[e]).append('~').append(mayTake(e)).append(' ');
        }
        for (int[] c : comings) {
            s.append(due(c)).append('!');
        }
        return s.toString();
    }

    /** t, d, or null. */
    private int[] findAgain() {
        List<String> looks = new ArrayList<>();
        PlainBelt b = copy();
        for (int k = 0; k <= 500; k++) {
            looks.add(b.look());
            b.tick();
        }
        for (int t = 0; t <= 500; t++) {
            for (int d = 1; t + d <= 500; d++) {
                if (looks.get(t).equals(looks.get(t + d))) {
                    return new int[] {t, d};
                }
            }
        }
        return null;
    }

    // the face

    private static void need(boolean there) {
        if (!there) {
            throw new NoSuchElementException();
        }
    }

    private static void legal(boolean fits) {
        if (!fits) {
            throw new IllegalArgumentException();
        }
    }

    private static boolean in(int i, int size) {
        return i >= 0 && i < size;
    }

    int feed(int a, int b, int c, int d, int e) {
        if (tape.length() > 480) {
            return -1;
        }
        for (int v : new int[] {a, b, c, d, e}) {
            tape += "" + (char) (v >>> 24) + (char) (v >>> 16 & 255) + (char) (v >>> 8 & 255) + (char) (v & 255);
        }
        return tape.length();
    }

    int belt(int length) {
        legal(length >= 0 && length <= tape.length());
        PlainBelt b = new PlainBelt();
        String text = tape.substring(0, length);
        tape = "";
        try {
            new PlainText(text).readBelt(b);
        } catch (PlainText.Fault f) {
            fault = f.place;
            return -10 - f.kind;
        }
        b.begin();
        adopt(b);
        acts.clear();
        fault = -1;
        return n;
    }

    int ask(int length) {
        legal(length >= 0 && length <= tape.length() && length <= 200);
        PlainText text = new PlainText(tape.substring(0, length));
        tape = "";
        PlainText.Worth test;
        try {
            test = text.readQuestion();
        } catch (PlainText.Fault f) {
            fault = f.place;
            return -1000000000 - f.kind;
        }
        fault = -1;
        List<Integer> hold = new ArrayList<>();
        for (int p = 0; p < n; p++) {
            int place = p;
            if (test.of(name -> ofPlace(place, name)) == 1) {
                hold.add(p);
            }
        }
        return text.many ? hold.size() : hold.isEmpty() ? -1 : hold.get(0);
    }

    private int ofPlace(int p, String name) {
        switch (name) {
            case "place": return p;
            case "ware": return place(p, 0);
            case "from": return place(p, 1);
            case "round": return place(p, 2);
            case "rides": return place(p, 3);
            case "held": return heldFor[p];
            case "exit": return exits.stream().map(e -> e[0]).toList().indexOf(p);
            default: return sides.stream().map(s -> s[0]).toList().indexOf(p);
        }
    }

    int fault() {
        return fault;
    }

    private int itemsThere() {
        int there = 0;
        for (Item i : items) {
            there += i == null ? 0 : 1;
        }
        return there;
    }

    private int lostEver() {
        return at.stream().mapToInt(s -> s.lost).sum();
    }

    private int takenEver() {
        return at.stream().mapToInt(s -> s.taken).sum();
    }

    private int waitingThere() {
        return at.stream().mapToInt(s -> s.queue.size()).sum();
    }

    int count(int what) {
        need(in(what, 16));
        int reserved = 0;
        for (int h : heldFor) {
            reserved += h == -1 ? 0 : 1;
        }
        return new int[] {n, exits.size(), wares.size(), sides.size(), comings.size(), tick, itemsThere(), reserved,
            n - itemsThere() - reserved, waitingThere(), takenEver(), lostEver(), Math.min(40, log.size()), acts.size(),
            tape.length(), turns == null ? 0 : 1}[what];
    }

    int place(int p, int what) {
        need(in(p, n) && in(what, 5));
        if (what == 4) {
            return heldFor[p];
        }
        Item i = items[p];
        return i == null ? -1 : new int[] {i.ware, i.side, i.rounds, tick - i.went}[what];
    }

    private int jam(int e) {
        for (int k = 0; k < n; k++) {
            Item i = items[Math.floorMod(exits.get(e)[0] - k, n)];
            if (i == null || wares.get(i.ware)[0] != e) {
                return k;
            }
        }
        return n;
    }

    int exit(int e, int what) {
        need(in(e, exits.size()) && in(what, 6));
        return new int[] {exits.get(e)[0], exits.get(e)[1], shutFor[e], takenAt[e], jam(e), mayTake(e)}[what];
    }

    int ware(int w, int what) {
        need(in(w, wares.size()) && in(what, 5));
        int there = 0;
        for (Item i : items) {
            there += i != null && i.ware == w ? 1 : 0;
        }
        int waiting = 0;
        for (Side s : at) {
            waiting += (int) s.queue.stream().filter(i -> i.ware == w).count();
        }
        return new int[] {wares.get(w)[0], wares.get(w)[1], there, waiting, takenOf[w]}[what];
    }

    int side(int k, int what) {
        need(in(k, at.size()) && in(what, 14));
        Side s = at.get(k);
        return new int[] {s.place, s.room, s.reach, s.share, s.queue.size(), held(k), s.credit, late(k), urgent(k), rank(k),
            s.gone, s.taken, s.lost, s.longest}[what];
    }

    int waiting(int side, int k) {
        need(in(side, at.size()) && in(k, at.get(side).queue.size()));
        return at.get(side).queue.get(k).ware;
    }

    int coming(int c, int what) {
        need(in(c, comings.size()) && in(what, 5));
        return what == 4 ? due(comings.get(c)) : comings.get(c)[what];
    }

    int log(int ago, int what) {
        need(in(ago, Math.min(40, log.size())) && in(what, 7));
        return log.get(ago)[what];
    }

    private void act() {
        acts.push(copy());
        if (acts.size() > 10) {
            acts.removeLast();
        }
    }

    int ticks(int k) {
        legal(k >= 1 && k <= 500);
        act();
        int before = takenEver();
        run(k);
        return takenEver() - before;
    }

    int push(int side, int ware) {
        if (!in(side, at.size()) || !in(ware, wares.size()) || at.get(side).queue.size() >= at.get(side).room) {
            return -1;
        }
        act();
        join(side, ware);
        return at.get(side).queue.size();
    }

    int shut(int e, int k) {
        need(in(e, exits.size()));
        legal(in(k, 1000));
        act();
        int was = shutFor[e];
        shutFor[e] = k;
        return was;
    }

    int change(int side, int what, int v) {
        need(in(side, at.size()) && in(what, 3));
        legal(what == 0 ? v >= 1 && v <= 20 : what == 1 ? in(v, n) : v >= 1 && v <= 9);
        act();
        int was = side(side, what + 1);
        Side s = at.get(side);
        if (what == 0) {
            s.room = v;
        } else if (what == 1) {
            s.reach = v;
        } else {
            s.share = v;
        }
        return was;
    }

    int undo() {
        if (acts.isEmpty()) {
            return -1;
        }
        adopt(acts.pop());
        return acts.size();
    }

    int trial(int k, int what) {
        need(in(what, 5));
        legal(in(k, 501));
        PlainBelt b = after(k);
        int jam = 0;
        for (int e = 0; e < exits.size(); e++) {
            jam = Math.max(jam, b.jam(e));
        }
        return new int[] {b.takenEver() - takenEver(), b.lostEver() - lostEver(), b.itemsThere(), b.waitingThere(), jam}[what];
    }

    int again(int what) {
        need(in(what, 2));
        int[] found = findAgain();
        return found == null ? -1 : found[what];
    }

    int rate(int what, int i) {
        need(in(what, 3) && (i == -1 || in(i, what == 0 ? exits.size() : at.size())));
        int[] found = findAgain();
        if (found == null) {
            return -1;
        }
        PlainBelt a = after(found[0]);
        PlainBelt b = a.after(found[1]);
        return b.counted(what, i) - a.counted(what, i);
    }

    private int counted(int what, int i) {
        if (i == -1) {
            return what == 2 ? lostEver() : takenEver();
        }
        return what == 0 ? takenAt[i] : what == 1 ? at.get(i).taken : at.get(i).lost;
    }

    private long[] fraction(int p) {
        long up = 0;
        long low = 1;
        for (int[] c : comings) {
            int here = sides.get(c[0])[0];
            int end = exits.get(wares.get(c[1])[0])[0];
            boolean on = false;
            do {
                on |= here == p;
                here = (here + 1) % n;
            } while (here != end);
            if (on) {
                up = up * c[2] + low;
                low = low * c[2];
                long g = java.math.BigInteger.valueOf(up).gcd(java.math.BigInteger.valueOf(low)).longValue();
                up /= g;
                low /= g;
            }
        }
        return new long[] {up, low};
    }

    long load(int p, boolean lower) {
        need(in(p, n));
        return fraction(p)[lower ? 1 : 0];
    }

    int heaviest() {
        int best = 0;
        for (int p = 1; p < n; p++) {
            long[] a = fraction(p);
            long[] b = fraction(best);
            if (java.math.BigInteger.valueOf(a[0]).multiply(java.math.BigInteger.valueOf(b[1]))
                    .compareTo(java.math.BigInteger.valueOf(b[0]).multiply(java.math.BigInteger.valueOf(a[1]))) > 0) {
                best = p;
            }
        }
        return best;
    }

    int leastRoom(int side, int k) {
        need(in(side, at.size()));
        legal(k >= 1 && k <= 500);
        for (int room = 1; room <= 20; room++) {
            if (room < at.get(side).queue.size()) {
                continue;
            }
            PlainBelt b = copy();
            b.at.get(side).room = room;
            b.run(k);
            if (b.at.get(side).lost == at.get(side).lost) {
                return room;
            }
        }
        return -1;
    }

    int bestReach(int side, int k) {
        need(in(side, at.size()));
        legal(k >= 1 && k <= 200);
        int best = -1;
        int most = -1;
        for (int reach = 0; reach < n; reach++) {
            PlainBelt b = copy();
            b.at.get(side).reach = reach;
            b.run(k);
            if (b.at.get(side).gone > most) {
                most = b.at.get(side).gone;
                best = reach;
            }
        }
        return best;
    }

    int without(int side, int k) {
        need(in(side, at.size()));
        legal(in(k, 501));
        PlainBelt a = after(k);
        PlainBelt b = copy();
        b.without = side;
        b.at.get(side).queue.clear();
        b.run(k);
        return b.takenEver() - b.at.get(side).taken - a.takenEver() + a.at.get(side).taken;
    }

    void image() {
        kept = copy();
    }

    boolean back() {
        if (kept == null) {
            return false;
        }
        adopt(kept);
        acts.clear();
        return true;
    }
}
