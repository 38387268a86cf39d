import java.util.Arrays;
import java.util.NoSuchElementException;

/** A ring of places with exits and side belts, as ../shared/DOC.md tells it. */
public final class MergeBelts {
    public static final int NONE = -1;

    private static final int MIN_PLACES = 4;
    private static final int MAX_PLACES = 40;
    private static final int MAX_EXITS = 6;
    private static final int MAX_WARES = 8;
    private static final int MAX_SIDES = 6;
    private static final int MAX_COMINGS = 12;
    private static final int MAX_PACE = 9;
    private static final int MAX_ROOM = 20;
    private static final int MAX_SHARE = 9;
    private static final int MAX_EVERY = 30;
    private static final int MAX_FROM = 999;
    private static final int MAX_SHUT = 999;
    private static final int MAX_NUMBER = 9999;
    private static final int MAX_OPEN = 6;
    private static final int MAX_TAPE = 500;
    private static final int MAX_QUESTION = 200;
    private static final int MAX_TICKS = 500;
    private static final int MAX_REACH_TICKS = 200;
    private static final int MAX_ACTS = 10;
    private static final int LOG_ROWS = 40;
    private static final int LOG_COLUMNS = 7;
    /** The least common multiple of 1 to 30: every 1 by EVERY is a whole number of its parts. */
    private static final long ALL_EVERIES = 2329089562800L;

    private static final int CANNOT_STAND = 1;
    private static final int NOT_AS_TOLD = 2;
    private static final int PLACE_IN_USE = 3;
    private static final int TOO_DEEP = 3;
    private static final int TOO_MANY = 4;
    private static final int SECOND_TURNS = 5;

    private final Tape tape = new Tape();
    private final BeltText beltText = new BeltText();
    private final Question question = new Question();
    private final Plan plan = new Plan();
    private final State now = new State();
    private final Acts acts = new Acts();
    private final State earlier = new State();
    private final State later = new State();
    private final Plan keptPlan = new Plan();
    private final State keptState = new State();
    private boolean kept;
    private int faultPlace = NONE;

    public MergeBelts() {
        plan.places = MIN_PLACES;
        now.begin(plan);
    }

    public int feed(int a, int b, int c, int d, int e) {
        if (tape.size + 20 > MAX_TAPE) {
            return NONE;
        }
        tape.putNumber(a);
        tape.putNumber(b);
        tape.putNumber(c);
        tape.putNumber(d);
        tape.putNumber(e);
        return tape.size;
    }

    public int belt(int n) throws IllegalArgumentException {
        if (n < 0 || n > tape.size) {
            throw new IllegalArgumentException();
        }
        beltText.read(tape, n);
        faultPlace = tape.faultPlace;
        if (tape.faultKind != 0) {
            return -10 - tape.faultKind;
        }
        plan.copyFrom(beltText.plan);
        now.begin(plan);
        acts.clear();
        return plan.places;
    }

    public int fault() {
        return faultPlace;
    }

    public int count(int what) throws NoSuchElementException {
        switch (what) {
            case 0: return plan.places;
            case 1: return plan.exits;
            case 2: return plan.wares;
            case 3: return plan.sides;
            case 4: return plan.comings;
            case 5: return now.tick;
            case 6: return now.ring.items();
            case 7: return now.ring.reserved();
            case 8: return plan.places - now.ring.items() - now.ring.reserved();
            case 9: return now.queues.size.sum();
            case 10: return now.exitTaken.sum();
            case 11: return now.lost.sum();
            case 12: return now.log.size;
            case 13: return acts.size;
            case 14: return tape.size;
            case 15: return plan.hasTurns ? 1 : 0;
            default: throw new NoSuchElementException();
        }
    }

    public int place(int place, int what) throws NoSuchElementException {
        if (!isIn(place, plan.places)) {
            throw new NoSuchElementException();
        }
        switch (what) {
            case 0: return now.ring.wareAt(place);
            case 1: return now.ring.fromAt(place);
            case 2: return now.ring.roundsAt(place);
            case 3: return now.ridesAt(place);
            case 4: return now.ring.heldForAt(place);
            default: throw new NoSuchElementException();
        }
    }

    public int exit(int exit, int what) throws NoSuchElementException {
        if (!isIn(exit, plan.exits)) {
            throw new NoSuchElementException();
        }
        switch (what) {
            case 0: return plan.exitPlace.get(exit);
            case 1: return plan.exitPace.get(exit);
            case 2: return now.shutFor.get(exit);
            case 3: return now.exitTaken.get(exit);
            case 4: return now.jam(plan, exit);
            case 5: return now.mayTakeIn(exit);
            default: throw new NoSuchElementException();
        }
    }

    public int ware(int ware, int what) throws NoSuchElementException {
        if (!isIn(ware, plan.wares)) {
            throw new NoSuchElementException();
        }
        switch (what) {
            case 0: return plan.wareExit.get(ware);
            case 1: return plan.wareUrgent.get(ware);
            case 2: return now.ring.itemsOf(ware);
            case 3: return now.queues.waitingOf(ware);
            case 4: return now.wareTaken.get(ware);
            default: throw new NoSuchElementException();
        }
    }

    public int side(int side, int what) throws NoSuchElementException {
        if (!isIn(side, plan.sides)) {
            throw new NoSuchElementException();
        }
        switch (what) {
            case 0: return plan.sidePlace.get(side);
            case 1: return now.room.get(side);
            case 2: return now.reach.get(side);
            case 3: return now.share.get(side);
            case 4: return now.queues.size.get(side);
            case 5: return now.held.get(side);
            case 6: return now.credit.get(side);
            case 7: return now.lateness(side);
            case 8: return now.urgentAt(plan, side);
            case 9: return now.rank(plan, side);
            case 10: return now.gone.get(side);
            case 11: return now.sideTaken.get(side);
            case 12: return now.lost.get(side);
            case 13: return now.longestWait.get(side);
            default: throw new NoSuchElementException();
        }
    }

    public int waiting(int side, int k) throws NoSuchElementException {
        if (!isIn(side, plan.sides) || !isIn(k, now.queues.size.get(side))) {
            throw new NoSuchElementException();
        }
        return now.queues.wareOf(side, k);
    }

    public int coming(int coming, int what) throws NoSuchElementException {
        if (!isIn(coming, plan.comings)) {
            throw new NoSuchElementException();
        }
        switch (what) {
            case 0: return plan.comingSide.get(coming);
            case 1: return plan.comingWare.get(coming);
            case 2: return plan.comingEvery.get(coming);
            case 3: return plan.comingFrom.get(coming);
            case 4: return plan.dueIn(coming, now.tick);
            default: throw new NoSuchElementException();
        }
    }

    public int log(int ago, int what) throws NoSuchElementException {
        if (!isIn(ago, now.log.size) || !isIn(what, LOG_COLUMNS)) {
            throw new NoSuchElementException();
        }
        return now.log.get(ago, what);
    }

    public int ticks(int n) throws IllegalArgumentException {
        if (n < 1 || n > MAX_TICKS) {
            throw new IllegalArgumentException();
        }
        acts.keep(now);
        int before = now.exitTaken.sum();
        now.run(plan, n);
        return now.exitTaken.sum() - before;
    }

    public int push(int side, int ware) {
        if (!isIn(side, plan.sides) || !isIn(ware, plan.wares) || now.isFull(side)) {
            return NONE;
        }
        acts.keep(now);
        now.queues.join(side, ware, now.tick);
        return now.queues.size.get(side);
    }

    public int shut(int exit, int n) throws NoSuchElementException, IllegalArgumentException {
        if (!isIn(exit, plan.exits)) {
            throw new NoSuchElementException();
        }
        if (n < 0 || n > MAX_SHUT) {
            throw new IllegalArgumentException();
        }
        acts.keep(now);
        int before = now.shutFor.get(exit);
        now.shutFor.set(exit, n);
        return before;
    }

    public int change(int side, int what, int v) throws NoSuchElementException, IllegalArgumentException {
        if (!isIn(side, plan.sides) || !isIn(what, 3)) {
            throw new NoSuchElementException();
        }
        if (!mayBecome(what, v)) {
            throw new IllegalArgumentException();
        }
        acts.keep(now);
        Row told = what == 0 ? now.room : what == 1 ? now.reach : now.share;
        int before = told.get(side);
        told.set(side, v);
        return before;
    }

    public int undo() {
        return acts.giveBack(now);
    }

    public int trial(int n, int what) throws NoSuchElementException, IllegalArgumentException {
        if (!isIn(what, 5)) {
            throw new NoSuchElementException();
        }
        if (n < 0 || n > MAX_TICKS) {
            throw new IllegalArgumentException();
        }
        later.copyFrom(now);
        later.run(plan, n);
        switch (what) {
            case 0: return later.exitTaken.sum() - now.exitTaken.sum();
            case 1: return later.lost.sum() - now.lost.sum();
            case 2: return later.ring.items();
            case 3: return later.queues.size.sum();
            default: return later.longestJam(plan);
        }
    }

    public int again(int what) throws NoSuchElementException {
        if (!isIn(what, 2)) {
            throw new NoSuchElementException();
        }
        int period = findAgain();
        if (period == NONE || what == 1) {
            return period;
        }
        return earlier.tick - now.tick;
    }

    public int rate(int what, int i) throws NoSuchElementException {
        int most = what == 0 ? plan.exits : plan.sides;
        if (!isIn(what, 3) || i != NONE && !isIn(i, most)) {
            throw new NoSuchElementException();
        }
        if (findAgain() == NONE) {
            return NONE;
        }
        return ratedBy(later, what, i) - ratedBy(earlier, what, i);
    }

    public long load(int place, boolean lower) throws NoSuchElementException {
        if (!isIn(place, plan.places)) {
            throw new NoSuchElementException();
        }
        long upper = plan.wholeLoad(place);
        long divisor = commonDivisor(ALL_EVERIES, upper);
        if (divisor == 0) {
            return 0;
        }
        return lower ? ALL_EVERIES / divisor : upper / divisor;
    }

    public int heaviest() {
        int heaviest = 0;
        for (int place = 1; place < plan.places; place++) {
            if (plan.wholeLoad(place) > plan.wholeLoad(heaviest)) {
                heaviest = place;
            }
        }
        return heaviest;
    }

    public int leastRoom(int side, int n) throws NoSuchElementException, IllegalArgumentException {
        if (!isIn(side, plan.sides)) {
            throw new NoSuchElementException();
        }
        if (n < 1 || n > MAX_TICKS) {
            throw new IllegalArgumentException();
        }
        for (int room = Math.max(1, now.queues.size.get(side)); room <= MAX_ROOM; room++) {
            later.copyFrom(now);
            later.room.set(side, room);
            later.runTillLost(plan, side, n);
            if (later.lost.get(side) == now.lost.get(side)) {
                return room;
            }
        }
        return NONE;
    }

    public int bestReach(int side, int n) throws NoSuchElementException, IllegalArgumentException {
        if (!isIn(side, plan.sides)) {
            throw new NoSuchElementException();
        }
        if (n < 1 || n > MAX_REACH_TICKS) {
            throw new IllegalArgumentException();
        }
        int best = 0;
        int most = NONE;
        for (int reach = 0; reach < plan.places; reach++) {
            later.copyFrom(now);
            later.reach.set(side, reach);
            later.run(plan, n);
            if (later.gone.get(side) > most) {
                most = later.gone.get(side);
                best = reach;
            }
        }
        return best;
    }

    public int without(int side, int n) throws NoSuchElementException, IllegalArgumentException {
        if (!isIn(side, plan.sides)) {
            throw new NoSuchElementException();
        }
        if (n < 0 || n > MAX_TICKS) {
            throw new IllegalArgumentException();
        }
        earlier.copyFrom(now);
        earlier.run(plan, n);
        later.copyFrom(now);
        later.silence(side);
        later.run(plan, n);
        return takenOfOthers(later, side) - takenOfOthers(earlier, side);
    }

    public int ask(int n) throws IllegalArgumentException {
        if (n < 0 || n > tape.size || n > MAX_QUESTION) {
            throw new IllegalArgumentException();
        }
        question.read(tape, n);
        faultPlace = tape.faultPlace;
        if (tape.faultKind != 0) {
            return -1000000000 - tape.faultKind;
        }
        int holding = 0;
        for (int place = 0; place < plan.places; place++) {
            if (question.holdsAt(place, plan, now)) {
                if (!question.many) {
                    return place;
                }
                holding++;
            }
        }
        return question.many ? holding : NONE;
    }

    public void image() {
        keptPlan.copyFrom(plan);
        keptState.copyFrom(now);
        kept = true;
    }

    public boolean back() {
        if (!kept) {
            return false;
        }
        plan.copyFrom(keptPlan);
        now.copyFrom(keptState);
        acts.clear();
        return true;
    }

    private static boolean isIn(int i, int size) {
        return i >= 0 && i < size;
    }

    private boolean mayBecome(int what, int v) {
        switch (what) {
            case 0: return v >= 1 && v <= MAX_ROOM;
            case 1: return v >= 0 && v < plan.places;
            default: return v >= 1 && v <= MAX_SHARE;
        }
    }

    /**
     * Leaves earlier behind t TICKS and later behind t and d: d, or NONE.
     * Where there is AGAIN, what is behind 500 TICKS lies within what comes again,
     * so d is found from there, and t behind it.
     */
    private int findAgain() {
        earlier.copyFrom(now);
        for (int k = 0; k < MAX_TICKS; k++) {
            earlier.step(plan);
        }
        later.copyFrom(earlier);
        int period = 1;
        later.step(plan);
        while (period < MAX_TICKS && !later.isAs(earlier, plan)) {
            later.step(plan);
            period++;
        }
        earlier.copyFrom(now);
        later.copyFrom(now);
        for (int k = 0; k < period; k++) {
            later.step(plan);
        }
        for (int t = 0; t + period <= MAX_TICKS; t++) {
            if (earlier.isAs(later, plan)) {
                return period;
            }
            earlier.step(plan);
            later.step(plan);
        }
        return NONE;
    }

    private static int ratedBy(State state, int what, int i) {
        Row counted = what == 0 ? state.exitTaken : what == 1 ? state.sideTaken : state.lost;
        return i == NONE ? counted.sum() : counted.get(i);
    }

    private static int takenOfOthers(State state, int side) {
        return state.sideTaken.sum() - state.sideTaken.get(side);
    }

    private static long commonDivisor(long a, long b) {
        long greater = a;
        long less = b;
        for (int k = 0; k < 200 && less != 0; k++) {
            long rest = greater % less;
            greater = less;
            less = rest;
        }
        return greater;
    }

    /** Ints behind indices that are looked at: outside of its length it reads 0 and keeps nothing. */
    private static final class Row {
        private final int[] cells;

        Row(int length) {
            cells = new int[length > 0 ? length : 0];
        }

        int get(int i) {
            return i >= 0 && i < cells.length ? cells[i] : 0;
        }

        void set(int i, int v) {
            if (i >= 0 && i < cells.length) {
                cells[i] = v;
            }
        }

        void add(int i, int v) {
            if (i >= 0 && i < cells.length) {
                cells[i] += v;
            }
        }

        void fill(int v) {
            Arrays.fill(cells, v);
        }

        void copyFrom(Row other) {
            System.arraycopy(other.cells, 0, cells, 0, Math.min(cells.length, other.cells.length));
        }

        int sum() {
            int sum = 0;
            for (int cell : cells) {
                sum += cell;
            }
            return sum;
        }

        boolean has(int v, int size) {
            for (int i = 0; i < size && i < cells.length; i++) {
                if (cells[i] == v) {
                    return true;
                }
            }
            return false;
        }
    }

    /** What is at PLACES. Its cells stand still; where PLACE 0 is among them goes round instead. */
    private static final class Ring {
        private final Row ware = new Row(MAX_PLACES);
        private final Row from = new Row(MAX_PLACES);
        private final Row rounds = new Row(MAX_PLACES);
        private final Row went = new Row(MAX_PLACES);
        private final Row waited = new Row(MAX_PLACES);
        private final Row heldFor = new Row(MAX_PLACES);
        private int size;
        private int turned;

        void clear(int places) {
            size = places;
            turned = 0;
            ware.fill(NONE);
            from.fill(NONE);
            rounds.fill(NONE);
            went.fill(0);
            waited.fill(0);
            heldFor.fill(NONE);
        }

        void copyFrom(Ring other) {
            ware.copyFrom(other.ware);
            from.copyFrom(other.from);
            rounds.copyFrom(other.rounds);
            went.copyFrom(other.went);
            waited.copyFrom(other.waited);
            heldFor.copyFrom(other.heldFor);
            size = other.size;
            turned = other.turned;
        }

        private int cell(int place) {
            int cell = place - turned;
            return cell < 0 ? cell + size : cell;
        }

        void advance() {
            turned = turned + 1 < size ? turned + 1 : 0;
            int first = cell(0);
            if (ware.get(first) != NONE) {
                rounds.add(first, 1);
            }
        }

        int wareAt(int place) {
            return ware.get(cell(place));
        }

        int fromAt(int place) {
            return from.get(cell(place));
        }

        int roundsAt(int place) {
            return rounds.get(cell(place));
        }

        int wentAt(int place) {
            return went.get(cell(place));
        }

        int waitedAt(int place) {
            return waited.get(cell(place));
        }

        int heldForAt(int place) {
            return heldFor.get(cell(place));
        }

        boolean isFree(int place) {
            int cell = cell(place);
            return ware.get(cell) == NONE && heldFor.get(cell) == NONE;
        }

        void hold(int place, int side) {
            heldFor.set(cell(place), side);
        }

        void seat(int place, int newWare, int side, int tick, int wait) {
            int cell = cell(place);
            ware.set(cell, newWare);
            from.set(cell, side);
            rounds.set(cell, 0);
            went.set(cell, tick);
            waited.set(cell, wait);
        }

        void vacate(int place) {
            int cell = cell(place);
            ware.set(cell, NONE);
            from.set(cell, NONE);
            rounds.set(cell, NONE);
        }

        int items() {
            int items = 0;
            for (int place = 0; place < size; place++) {
                items += ware.get(place) != NONE ? 1 : 0;
            }
            return items;
        }

        int itemsOf(int one) {
            int items = 0;
            for (int place = 0; place < size; place++) {
                items += ware.get(place) == one ? 1 : 0;
            }
            return items;
        }

        int reserved() {
            int reserved = 0;
            for (int place = 0; place < size; place++) {
                reserved += heldFor.get(place) != NONE ? 1 : 0;
            }
            return reserved;
        }

        boolean isAs(Ring other) {
            for (int place = 0; place < size; place++) {
                int mine = cell(place);
                int its = other.cell(place);
                if (ware.get(mine) != other.ware.get(its) || from.get(mine) != other.from.get(its)
                        || heldFor.get(mine) != other.heldFor.get(its)) {
                    return false;
                }
            }
            return true;
        }
    }

    /** Who waits: of each SIDE MAX_ROOM cells one behind another, the first ITEM in the first. */
    private static final class Queues {
        final Row ware = new Row(MAX_SIDES * MAX_ROOM);
        final Row came = new Row(MAX_SIDES * MAX_ROOM);
        final Row size = new Row(MAX_SIDES);

        void clear() {
            size.fill(0);
        }

        void copyFrom(Queues other) {
            ware.copyFrom(other.ware);
            came.copyFrom(other.came);
            size.copyFrom(other.size);
        }

        int wareOf(int side, int k) {
            return ware.get(side * MAX_ROOM + k);
        }

        int cameOf(int side, int k) {
            return came.get(side * MAX_ROOM + k);
        }

        void join(int side, int newWare, int tick) {
            int k = size.get(side);
            if (k < MAX_ROOM) {
                ware.set(side * MAX_ROOM + k, newWare);
                came.set(side * MAX_ROOM + k, tick);
                size.set(side, k + 1);
            }
        }

        void dropFirst(int side) {
            int waiting = size.get(side);
            for (int k = side * MAX_ROOM; k < side * MAX_ROOM + waiting - 1; k++) {
                ware.set(k, ware.get(k + 1));
                came.set(k, came.get(k + 1));
            }
            size.set(side, Math.max(0, waiting - 1));
        }

        int waitingOf(int one) {
            int found = 0;
            for (int side = 0; side < MAX_SIDES; side++) {
                for (int k = 0; k < size.get(side); k++) {
                    found += wareOf(side, k) == one ? 1 : 0;
                }
            }
            return found;
        }

        boolean hasSameWares(Queues other, int side) {
            if (size.get(side) != other.size.get(side)) {
                return false;
            }
            for (int k = 0; k < size.get(side); k++) {
                if (wareOf(side, k) != other.wareOf(side, k)) {
                    return false;
                }
            }
            return true;
        }
    }

    /** The latest that were TAKEN: the row that is written next follows the latest, round and round. */
    private static final class Log {
        private final Row cells = new Row(LOG_ROWS * LOG_COLUMNS);
        private int next;
        int size;

        void clear() {
            next = 0;
            size = 0;
        }

        void copyFrom(Log other) {
            cells.copyFrom(other.cells);
            next = other.next;
            size = other.size;
        }

        int get(int ago, int what) {
            int row = next - 1 - ago;
            return cells.get((row < 0 ? row + LOG_ROWS : row) * LOG_COLUMNS + what);
        }

        void add(int tick, int exit, int ware, int side, int wait, int ride, int rounds) {
            int start = next * LOG_COLUMNS;
            cells.set(start, tick);
            cells.set(start + 1, exit);
            cells.set(start + 2, ware);
            cells.set(start + 3, side);
            cells.set(start + 4, wait);
            cells.set(start + 5, ride);
            cells.set(start + 6, rounds);
            next = next + 1 < LOG_ROWS ? next + 1 : 0;
            size = Math.min(size + 1, LOG_ROWS);
        }
    }

    /** What a TEXT tells: ACTS never change it. */
    private static final class Plan {
        int places;
        int exits;
        final Row exitPlace = new Row(MAX_EXITS);
        final Row exitPace = new Row(MAX_EXITS);
        int wares;
        final Row wareExit = new Row(MAX_WARES);
        final Row wareUrgent = new Row(MAX_WARES);
        int sides;
        final Row sidePlace = new Row(MAX_SIDES);
        final Row sideRoom = new Row(MAX_SIDES);
        final Row sideReach = new Row(MAX_SIDES);
        final Row sideShare = new Row(MAX_SIDES);
        int comings;
        final Row comingSide = new Row(MAX_COMINGS);
        final Row comingWare = new Row(MAX_COMINGS);
        final Row comingEvery = new Row(MAX_COMINGS);
        final Row comingFrom = new Row(MAX_COMINGS);
        boolean hasTurns;
        final Formula law = new Formula(MAX_TAPE);

        void clear() {
            places = 0;
            exits = 0;
            wares = 0;
            sides = 0;
            comings = 0;
            hasTurns = false;
            law.clear();
        }

        void copyFrom(Plan other) {
            places = other.places;
            exits = other.exits;
            exitPlace.copyFrom(other.exitPlace);
            exitPace.copyFrom(other.exitPace);
            wares = other.wares;
            wareExit.copyFrom(other.wareExit);
            wareUrgent.copyFrom(other.wareUrgent);
            sides = other.sides;
            sidePlace.copyFrom(other.sidePlace);
            sideRoom.copyFrom(other.sideRoom);
            sideReach.copyFrom(other.sideReach);
            sideShare.copyFrom(other.sideShare);
            comings = other.comings;
            comingSide.copyFrom(other.comingSide);
            comingWare.copyFrom(other.comingWare);
            comingEvery.copyFrom(other.comingEvery);
            comingFrom.copyFrom(other.comingFrom);
            hasTurns = other.hasTurns;
            law.copyFrom(other.law);
        }

        int exitAt(int place) {
            return indexOf(place, exitPlace, exits);
        }

        int sideAt(int place) {
            return indexOf(place, sidePlace, sides);
        }

        private static int indexOf(int v, Row row, int size) {
            for (int i = 0; i < size; i++) {
                if (row.get(i) == v) {
                    return i;
                }
            }
            return NONE;
        }

        int dueIn(int coming, int tick) {
            int from = comingFrom.get(coming);
            int every = comingEvery.get(coming);
            if (tick <= from) {
                return from - tick;
            }
            if (every < 1) {
                return 0;
            }
            int over = (tick - from) % every;
            return over == 0 ? 0 : every - over;
        }

        /** LOAD in parts of which ALL_EVERIES are 1. */
        long wholeLoad(int place) {
            long sum = 0;
            for (int coming = 0; coming < comings; coming++) {
                int start = sidePlace.get(comingSide.get(coming));
                int end = exitPlace.get(wareExit.get(comingWare.get(coming)));
                int every = comingEvery.get(coming);
                int length = end > start ? end - start : end - start + places;
                int ahead = place >= start ? place - start : place - start + places;
                if (ahead < length && every > 0) {
                    sum += ALL_EVERIES / every;
                }
            }
            return sum;
        }
    }

    /** All that TICKS and ACTS change. */
    private static final class State {
        int tick;
        final Ring ring = new Ring();
        final Queues queues = new Queues();
        final Row room = new Row(MAX_SIDES);
        final Row reach = new Row(MAX_SIDES);
        final Row share = new Row(MAX_SIDES);
        final Row credit = new Row(MAX_SIDES);
        final Row held = new Row(MAX_SIDES);
        final Row gone = new Row(MAX_SIDES);
        final Row sideTaken = new Row(MAX_SIDES);
        final Row lost = new Row(MAX_SIDES);
        final Row longestWait = new Row(MAX_SIDES);
        final Row mayTake = new Row(MAX_EXITS);
        final Row shutFor = new Row(MAX_EXITS);
        final Row exitTaken = new Row(MAX_EXITS);
        final Row wareTaken = new Row(MAX_WARES);
        final Log log = new Log();
        private int silent = NONE;

        void begin(Plan plan) {
            tick = 0;
            ring.clear(plan.places);
            queues.clear();
            room.copyFrom(plan.sideRoom);
            reach.copyFrom(plan.sideReach);
            share.copyFrom(plan.sideShare);
            credit.fill(0);
            held.fill(0);
            gone.fill(0);
            sideTaken.fill(0);
            lost.fill(0);
            longestWait.fill(0);
            mayTake.fill(0);
            shutFor.fill(0);
            exitTaken.fill(0);
            wareTaken.fill(0);
            log.clear();
            silent = NONE;
        }

        void copyFrom(State other) {
            tick = other.tick;
            ring.copyFrom(other.ring);
            queues.copyFrom(other.queues);
            room.copyFrom(other.room);
            reach.copyFrom(other.reach);
            share.copyFrom(other.share);
            credit.copyFrom(other.credit);
            held.copyFrom(other.held);
            gone.copyFrom(other.gone);
            sideTaken.copyFrom(other.sideTaken);
            lost.copyFrom(other.lost);
            longestWait.copyFrom(other.longestWait);
            mayTake.copyFrom(other.mayTake);
            shutFor.copyFrom(other.shutFor);
            exitTaken.copyFrom(other.exitTaken);
            wareTaken.copyFrom(other.wareTaken);
            log.copyFrom(other.log);
            silent = other.silent;
        }

        /** For a TRIAL WITHOUT a SIDE: as nobody waits there, it takes no turns, and what is RESERVED for it gets free. */
        void silence(int side) {
            silent = side;
            queues.size.set(side, 0);
        }

        void run(Plan plan, int n) {
            for (int k = 0; k < n; k++) {
                step(plan);
            }
        }

        void runTillLost(Plan plan, int side, int n) {
            int before = lost.get(side);
            for (int k = 0; k < n && lost.get(side) == before; k++) {
                step(plan);
            }
        }

        void step(Plan plan) {
            comeIn(plan);
            ring.advance();
            takeOut(plan);
            goOn(plan);
            takeTurns(plan);
            tick++;
            for (int exit = 0; exit < plan.exits; exit++) {
                shutFor.set(exit, Math.max(0, shutFor.get(exit) - 1));
            }
        }

        private void comeIn(Plan plan) {
            for (int coming = 0; coming < plan.comings; coming++) {
                int side = plan.comingSide.get(coming);
                if (side == silent || plan.dueIn(coming, tick) != 0) {
                    continue;
                }
                if (isFull(side)) {
                    lost.add(side, 1);
                } else {
                    queues.join(side, plan.comingWare.get(coming), tick);
                }
            }
        }

        private void takeOut(Plan plan) {
            for (int exit = 0; exit < plan.exits; exit++) {
                int place = plan.exitPlace.get(exit);
                if (shutFor.get(exit) > 0 || tick < mayTake.get(exit) || !goesTo(plan, place, exit)) {
                    continue;
                }
                int ware = ring.wareAt(place);
                int side = ring.fromAt(place);
                log.add(tick, exit, ware, side, ring.waitedAt(place), ridesAt(place), ring.roundsAt(place));
                exitTaken.add(exit, 1);
                sideTaken.add(side, 1);
                wareTaken.add(ware, 1);
                mayTake.set(exit, tick + plan.exitPace.get(exit));
                ring.vacate(place);
            }
        }

        private void goOn(Plan plan) {
            for (int side = 0; side < plan.sides; side++) {
                int place = plan.sidePlace.get(side);
                boolean own = ring.heldForAt(place) == side;
                if (!own && !ring.isFree(place)) {
                    continue;
                }
                if (own) {
                    ring.hold(place, NONE);
                    held.add(side, -1);
                }
                if (queues.size.get(side) > 0) {
                    int wait = lateness(side);
                    ring.seat(place, queues.wareOf(side, 0), side, tick, wait);
                    queues.dropFirst(side);
                    gone.add(side, 1);
                    longestWait.set(side, Math.max(wait, longestWait.get(side)));
                }
            }
        }

        private void takeTurns(Plan plan) {
            for (int turn = 0; turn < plan.places; turn++) {
                int chosen = NONE;
                int chosenGap = NONE;
                int greatest = 0;
                int shares = 0;
                int asking = 0;
                for (int side = 0; side < plan.sides; side++) {
                    int gap = nearestGap(plan, side);
                    if (gap == NONE) {
                        continue;
                    }
                    asking |= 1 << side;
                    shares += share.get(side);
                    int rank = rank(plan, side);
                    if (chosen == NONE || rank > greatest) {
                        chosen = side;
                        chosenGap = gap;
                        greatest = rank;
                    }
                }
                if (chosen == NONE) {
                    return;
                }
                ring.hold(chosenGap, chosen);
                held.add(chosen, 1);
                payCredits(plan, asking, chosen, shares);
            }
        }

        /** The free PLACE that a SIDE might have now: NONE too if it wants none. */
        private int nearestGap(Plan plan, int side) {
            if (queues.size.get(side) <= held.get(side)) {
                return NONE;
            }
            int place = plan.sidePlace.get(side);
            for (int k = 0; k < reach.get(side); k++) {
                place = place > 0 ? place - 1 : plan.places - 1;
                if (ring.isFree(place)) {
                    return place;
                }
            }
            return NONE;
        }

        private void payCredits(Plan plan, int asking, int chosen, int shares) {
            for (int side = 0; side < plan.sides; side++) {
                if ((asking >> side & 1) == 1) {
                    credit.add(side, share.get(side));
                }
            }
            credit.add(chosen, -shares);
        }

        int rank(Plan plan, int side) {
            if (!plan.hasTurns) {
                return credit.get(side);
            }
            Row parts = plan.law.parts;
            parts.set(Formula.CREDIT, credit.get(side));
            parts.set(Formula.SHARE, share.get(side));
            parts.set(Formula.WAITS, queues.size.get(side));
            parts.set(Formula.ROOM, room.get(side));
            parts.set(Formula.HELD, held.get(side));
            parts.set(Formula.LATE, lateness(side));
            parts.set(Formula.URGENT, urgentAt(plan, side));
            parts.set(Formula.SIDE, side);
            return plan.law.value();
        }

        boolean isFull(int side) {
            return queues.size.get(side) >= room.get(side);
        }

        int lateness(int side) {
            return queues.size.get(side) > 0 ? tick - queues.came.get(side * MAX_ROOM) : 0;
        }

        int urgentAt(Plan plan, int side) {
            int urgent = 0;
            for (int k = 0; k < queues.size.get(side); k++) {
                urgent += plan.wareUrgent.get(queues.ware.get(side * MAX_ROOM + k));
            }
            return urgent;
        }

        int ridesAt(int place) {
            return ring.wareAt(place) == NONE ? NONE : tick - ring.wentAt(place);
        }

        int mayTakeIn(int exit) {
            return Math.max(0, mayTake.get(exit) - tick);
        }

        private boolean goesTo(Plan plan, int place, int exit) {
            int ware = ring.wareAt(place);
            return ware != NONE && plan.wareExit.get(ware) == exit;
        }

        int jam(Plan plan, int exit) {
            int place = plan.exitPlace.get(exit);
            int jam = 0;
            while (jam < plan.places && goesTo(plan, place, exit)) {
                jam++;
                place = place > 0 ? place - 1 : plan.places - 1;
            }
            return jam;
        }

        int longestJam(Plan plan) {
            int longest = 0;
            for (int exit = 0; exit < plan.exits; exit++) {
                longest = Math.max(longest, jam(plan, exit));
            }
            return longest;
        }

        /** Whether all that AGAIN asks for is the same. */
        boolean isAs(State other, Plan plan) {
            if (!ring.isAs(other.ring)) {
                return false;
            }
            for (int exit = 0; exit < plan.exits; exit++) {
                if (shutFor.get(exit) != other.shutFor.get(exit) || mayTakeIn(exit) != other.mayTakeIn(exit)) {
                    return false;
                }
            }
            for (int coming = 0; coming < plan.comings; coming++) {
                if (plan.dueIn(coming, tick) != plan.dueIn(coming, other.tick)) {
                    return false;
                }
            }
            for (int side = 0; side < plan.sides; side++) {
                if (credit.get(side) != other.credit.get(side) || !queues.hasSameWares(other.queues, side)) {
                    return false;
                }
            }
            return !plan.law.uses(Formula.LATE) || waitsAsLong(other, plan);
        }

        private boolean waitsAsLong(State other, Plan plan) {
            for (int side = 0; side < plan.sides; side++) {
                for (int k = 0; k < queues.size.get(side); k++) {
                    if (tick - queues.cameOf(side, k) != other.tick - other.queues.cameOf(side, k)) {
                        return false;
                    }
                }
            }
            return true;
        }
    }

    /** What was ahead of each of the latest ACTS. */
    private static final class Acts {
        private final State[] before = new State[MAX_ACTS];
        private int next;
        int size;

        Acts() {
            for (int i = 0; i < before.length; i++) {
                before[i] = new State();
            }
        }

        void clear() {
            size = 0;
        }

        void keep(State state) {
            if (next < 0 || next >= before.length || before[next] == null) {
                return;
            }
            before[next].copyFrom(state);
            next = next + 1 < MAX_ACTS ? next + 1 : 0;
            size = Math.min(size + 1, MAX_ACTS);
        }

        int giveBack(State state) {
            int latest = next > 0 ? next - 1 : MAX_ACTS - 1;
            if (size == 0 || latest >= before.length || before[latest] == null) {
                return NONE;
            }
            state.copyFrom(before[latest]);
            next = latest;
            size--;
            return size;
        }
    }

    /**
     * A SUM or a TEST, its operators behind what they work on, so that one pass with a stack works it out.
     * In the code a number from 0 on is itself, one from LAST_PART to -1 a part, one below an operator.
     */
    private static final class Formula {
        static final int CREDIT = 0;
        static final int SHARE = 1;
        static final int WAITS = 2;
        static final int ROOM = 3;
        static final int HELD = 4;
        static final int LATE = 5;
        static final int URGENT = 6;
        static final int SIDE = 7;
        static final int PARTS = 8;

        static final int PLUS = -11;
        static final int MINUS = -12;
        static final int TIMES = -13;
        static final int LESS = -14;
        static final int SAME = -15;
        static final int MORE = -16;
        static final int AND = -17;
        static final int OR = -18;
        static final int NOT = -19;
        static final int OPEN = -20;

        /** Six open at once, and between each two of them a weak and a strong operator, stay far below. */
        private static final int DEPTH = 64;

        final Row parts = new Row(PARTS);
        private final Row code;
        private int size;
        private final Row waitingOperators = new Row(DEPTH);
        private int waitingSize;
        private final Row stack = new Row(DEPTH);

        Formula(int length) {
            code = new Row(length);
        }

        void clear() {
            size = 0;
            waitingSize = 0;
        }

        void copyFrom(Formula other) {
            code.copyFrom(other.code);
            size = other.size;
        }

        boolean uses(int part) {
            return code.has(-1 - part, size);
        }

        void addNumber(int number) {
            code.set(size, number);
            size++;
        }

        void addPart(int part) {
            code.set(size, -1 - part);
            size++;
        }

        /** For what stands ahead of what it works on: 'not', an opening one. */
        void open(int operator) {
            waitingOperators.set(waitingSize, operator);
            waitingSize++;
        }

        void addOperator(int operator) {
            settle(strength(operator));
            open(operator);
        }

        void close() {
            settle(1);
            waitingSize = Math.max(0, waitingSize - 1);
        }

        /** How many 'not' end with the FACT. */
        int endFact() {
            int ended = 0;
            for (int k = waitingSize - 1; k >= 0 && strength(waitingOperators.get(k)) >= strength(NOT); k--) {
                ended += waitingOperators.get(k) == NOT ? 1 : 0;
            }
            settle(strength(NOT));
            return ended;
        }

        void end() {
            settle(1);
        }

        private void settle(int least) {
            while (waitingSize > 0 && strength(waitingOperators.get(waitingSize - 1)) >= least) {
                waitingSize--;
                code.set(size, waitingOperators.get(waitingSize));
                size++;
            }
        }

        private static int strength(int operator) {
            switch (operator) {
                case OPEN: return 0;
                case PLUS: case MINUS: case OR: return 1;
                case TIMES: case AND: return 2;
                case NOT: return 3;
                default: return 4;
            }
        }

        int value() {
            int depth = 0;
            for (int i = 0; i < size; i++) {
                int step = code.get(i);
                if (step >= 0) {
                    stack.set(depth, step);
                    depth++;
                } else if (step >= -PARTS) {
                    stack.set(depth, parts.get(-1 - step));
                    depth++;
                } else if (step == NOT) {
                    stack.set(depth - 1, 1 - stack.get(depth - 1));
                } else {
                    depth--;
                    stack.set(depth - 1, together(step, stack.get(depth - 1), stack.get(depth)));
                }
            }
            return depth > 0 ? stack.get(depth - 1) : 0;
        }

        private static int together(int operator, int a, int b) {
            switch (operator) {
                case PLUS: return a + b;
                case MINUS: return a - b;
                case TIMES: return a * b;
                case LESS: return a < b ? 1 : 0;
                case SAME: return a == b ? 1 : 0;
                case MORE: return a > b ? 1 : 0;
                case AND: return a & b;
                default: return a | b;
            }
        }
    }

    /** The bytes that were fed, and the text of its first ones gone through TOKEN by TOKEN till the first FAULT. */
    private static final class Tape {
        private static final int END = 0;
        private static final int WORD = 1;
        private static final int NUMBER = 2;
        private static final int SIGN = 3;
        /** Above all that a NUMBER may be, and far from an int's end. */
        private static final int TOO_GREAT = 1000000;

        private final Row bytes = new Row(MAX_TAPE);
        int size;
        private int length;
        private int kind;
        private int start;
        private int end;
        int faultKind;
        int faultPlace = NONE;

        void putNumber(int number) {
            for (int shift = 24; shift >= 0; shift -= 8) {
                bytes.set(size, number >> shift & 255);
                size++;
            }
        }

        void beginText(int n) {
            size = 0;
            length = n;
            end = 0;
            faultKind = 0;
            faultPlace = NONE;
            next();
        }

        void next() {
            start = end;
            while (start < length && (bytes.get(start) == 32 || bytes.get(start) == 10)) {
                start++;
            }
            end = start;
            if (start >= length) {
                kind = END;
                return;
            }
            kind = kindOf(bytes.get(start));
            end++;
            while (end < length && kind != SIGN && kindOf(bytes.get(end)) == kind) {
                end++;
            }
        }

        private static int kindOf(int sign) {
            if (sign >= 'a' && sign <= 'z') {
                return WORD;
            }
            return sign >= '0' && sign <= '9' ? NUMBER : SIGN;
        }

        boolean isFine() {
            return faultKind == 0;
        }

        boolean isAtEnd() {
            return kind == END;
        }

        boolean isNumber() {
            return kind == NUMBER;
        }

        boolean isSign(char sign) {
            return kind == SIGN && bytes.get(start) == sign;
        }

        boolean isWord(String word) {
            if (kind != WORD || end - start != word.length()) {
                return false;
            }
            for (int i = 0; i < word.length(); i++) {
                if (bytes.get(start + i) != word.charAt(i)) {
                    return false;
                }
            }
            return true;
        }

        int number() {
            int number = 0;
            for (int i = start; i < end; i++) {
                number = Math.min(number * 10 + bytes.get(i) - '0', TOO_GREAT);
            }
            return number;
        }

        /** Only the first FAULT counts: what goes on behind it changes nothing. */
        int fail(int fault) {
            if (faultKind == 0) {
                faultKind = fault;
                faultPlace = start;
            }
            return 0;
        }

        void takeWord(String word) {
            takeIf(isWord(word));
        }

        void takeSign(char sign) {
            takeIf(isSign(sign));
        }

        private void takeIf(boolean asTold) {
            if (!asTold) {
                fail(CANNOT_STAND);
            } else if (faultKind == 0) {
                next();
            }
        }

        int takeNumber(int least, int most) {
            if (kind != NUMBER) {
                return fail(CANNOT_STAND);
            }
            int number = number();
            if (number < least || number > most) {
                return fail(NOT_AS_TOLD);
            }
            if (faultKind == 0) {
                next();
            }
            return number;
        }
    }

    /** Reads a TEXT into a plan of its own, so that a FAULT changes no other. */
    private static final class BeltText {
        final Plan plan = new Plan();

        void read(Tape tape, int n) {
            plan.clear();
            tape.beginText(n);
            tape.takeWord("belt");
            plan.places = tape.takeNumber(MIN_PLACES, MAX_PLACES);
            tape.takeSign(';');
            for (int line = 0; line < MAX_TAPE && tape.isFine() && !tape.isAtEnd(); line++) {
                if (tape.isWord("exit")) {
                    readExit(tape);
                } else if (tape.isWord("ware")) {
                    readWare(tape);
                } else if (tape.isWord("side")) {
                    readSide(tape);
                } else if (tape.isWord("comes")) {
                    readComing(tape);
                } else if (tape.isWord("turns")) {
                    readTurns(tape);
                } else {
                    tape.fail(CANNOT_STAND);
                }
                tape.takeSign(';');
            }
        }

        /** Takes the word of one more, if one more may be. */
        private static void takeOneMore(Tape tape, int there, int most) {
            if (there >= most) {
                tape.fail(TOO_MANY);
            } else {
                tape.next();
            }
        }

        private int takeOwnPlace(Tape tape, Row used, int there) {
            if (tape.isNumber() && used.has(tape.number(), there)) {
                return tape.fail(PLACE_IN_USE);
            }
            return tape.takeNumber(0, plan.places - 1);
        }

        private void readExit(Tape tape) {
            int exit = plan.exits;
            takeOneMore(tape, exit, MAX_EXITS);
            plan.exitPlace.set(exit, takeOwnPlace(tape, plan.exitPlace, exit));
            plan.exitPace.set(exit, tape.takeNumber(1, MAX_PACE));
            plan.exits++;
        }

        private void readWare(Tape tape) {
            int ware = plan.wares;
            takeOneMore(tape, ware, MAX_WARES);
            plan.wareExit.set(ware, tape.takeNumber(0, plan.exits - 1));
            boolean urgent = tape.isWord("urgent");
            plan.wareUrgent.set(ware, urgent ? 1 : 0);
            if (urgent) {
                tape.takeWord("urgent");
            }
            plan.wares++;
        }

        private void readSide(Tape tape) {
            int side = plan.sides;
            takeOneMore(tape, side, MAX_SIDES);
            plan.sidePlace.set(side, takeOwnPlace(tape, plan.sidePlace, side));
            plan.sideRoom.set(side, tape.takeNumber(1, MAX_ROOM));
            plan.sideReach.set(side, tape.takeNumber(0, plan.places - 1));
            plan.sideShare.set(side, tape.takeNumber(1, MAX_SHARE));
            plan.sides++;
        }

        private void readComing(Tape tape) {
            int coming = plan.comings;
            takeOneMore(tape, coming, MAX_COMINGS);
            plan.comingSide.set(coming, tape.takeNumber(0, plan.sides - 1));
            plan.comingWare.set(coming, tape.takeNumber(0, plan.wares - 1));
            plan.comingEvery.set(coming, tape.takeNumber(1, MAX_EVERY));
            plan.comingFrom.set(coming, tape.takeNumber(0, MAX_FROM));
            plan.comings++;
        }

        private void readTurns(Tape tape) {
            if (plan.hasTurns) {
                tape.fail(SECOND_TURNS);
                return;
            }
            plan.hasTurns = true;
            tape.next();
            int open = 0;
            boolean partIsDue = true;
            for (int token = 0; token < MAX_TAPE && tape.isFine(); token++) {
                if (partIsDue && tape.isSign('(')) {
                    open += takeOpening(tape, open);
                } else if (partIsDue) {
                    readPart(tape);
                    partIsDue = false;
                } else if (operatorThere(tape) != 0) {
                    plan.law.addOperator(operatorThere(tape));
                    tape.next();
                    partIsDue = true;
                } else if (open > 0) {
                    tape.takeSign(')');
                    plan.law.close();
                    open--;
                } else {
                    break;
                }
            }
            plan.law.end();
        }

        private int takeOpening(Tape tape, int open) {
            if (open >= MAX_OPEN) {
                return tape.fail(TOO_MANY);
            }
            plan.law.open(Formula.OPEN);
            tape.next();
            return 1;
        }

        private void readPart(Tape tape) {
            int part = partThere(tape);
            if (part == NONE) {
                plan.law.addNumber(tape.takeNumber(0, MAX_NUMBER));
            } else {
                plan.law.addPart(part);
                tape.next();
            }
        }

        private static int operatorThere(Tape tape) {
            if (tape.isSign('+')) {
                return Formula.PLUS;
            }
            if (tape.isSign('-')) {
                return Formula.MINUS;
            }
            return tape.isSign('*') ? Formula.TIMES : 0;
        }

        private static int partThere(Tape tape) {
            if (tape.isWord("credit")) {
                return Formula.CREDIT;
            }
            if (tape.isWord("share")) {
                return Formula.SHARE;
            }
            if (tape.isWord("waits")) {
                return Formula.WAITS;
            }
            if (tape.isWord("room")) {
                return Formula.ROOM;
            }
            if (tape.isWord("held")) {
                return Formula.HELD;
            }
            if (tape.isWord("late")) {
                return Formula.LATE;
            }
            if (tape.isWord("urgent")) {
                return Formula.URGENT;
            }
            return tape.isWord("side") ? Formula.SIDE : NONE;
        }
    }

    /** Reads a QUESTION and answers it for each PLACE. */
    private static final class Question {
        private static final int PLACE = 0;
        private static final int WARE = 1;
        private static final int FROM = 2;
        private static final int ROUND = 3;
        private static final int RIDES = 4;
        private static final int HELD = 5;
        private static final int EXIT = 6;
        private static final int SIDE = 7;

        private final Formula test = new Formula(MAX_QUESTION);
        boolean many;
        private int braces;
        private int nots;

        void read(Tape tape, int n) {
            test.clear();
            braces = 0;
            nots = 0;
            tape.beginText(n);
            many = tape.isWord("many");
            tape.takeWord(many ? "many" : "first");
            boolean factIsDue = true;
            for (int token = 0; token < MAX_QUESTION && tape.isFine(); token++) {
                if (factIsDue) {
                    factIsDue = !readFact(tape);
                } else if (tape.isWord("and") || tape.isWord("or")) {
                    test.addOperator(tape.isWord("and") ? Formula.AND : Formula.OR);
                    tape.next();
                    factIsDue = true;
                } else if (braces > 0) {
                    tape.takeSign('}');
                    test.close();
                    braces--;
                    nots -= test.endFact();
                } else if (tape.isAtEnd()) {
                    break;
                } else {
                    tape.fail(CANNOT_STAND);
                }
            }
            test.end();
        }

        /** Whether it was a comparison: behind 'not' and '{' a FACT is still due. */
        private boolean readFact(Tape tape) {
            boolean not = tape.isWord("not");
            if (not || tape.isSign('{')) {
                openOneMore(tape, not);
                return false;
            }
            readValue(tape);
            int operator = comparisonThere(tape);
            if (operator == 0) {
                tape.fail(CANNOT_STAND);
                return false;
            }
            tape.next();
            test.addOperator(operator);
            readValue(tape);
            nots -= test.endFact();
            return true;
        }

        private void openOneMore(Tape tape, boolean not) {
            if (nots + braces >= MAX_OPEN) {
                tape.fail(TOO_DEEP);
                return;
            }
            nots += not ? 1 : 0;
            braces += not ? 0 : 1;
            test.open(not ? Formula.NOT : Formula.OPEN);
            tape.next();
        }

        private void readValue(Tape tape) {
            int part = partThere(tape);
            if (part == NONE) {
                test.addNumber(tape.takeNumber(0, MAX_NUMBER));
            } else {
                test.addPart(part);
                tape.next();
            }
        }

        private static int comparisonThere(Tape tape) {
            if (tape.isSign('<')) {
                return Formula.LESS;
            }
            if (tape.isSign('=')) {
                return Formula.SAME;
            }
            return tape.isSign('>') ? Formula.MORE : 0;
        }

        private static int partThere(Tape tape) {
            if (tape.isWord("place")) {
                return PLACE;
            }
            if (tape.isWord("ware")) {
                return WARE;
            }
            if (tape.isWord("from")) {
                return FROM;
            }
            if (tape.isWord("round")) {
                return ROUND;
            }
            if (tape.isWord("rides")) {
                return RIDES;
            }
            if (tape.isWord("held")) {
                return HELD;
            }
            if (tape.isWord("exit")) {
                return EXIT;
            }
            return tape.isWord("side") ? SIDE : NONE;
        }

        boolean holdsAt(int place, Plan plan, State state) {
            Row parts = test.parts;
            parts.set(PLACE, place);
            parts.set(WARE, state.ring.wareAt(place));
            parts.set(FROM, state.ring.fromAt(place));
            parts.set(ROUND, state.ring.roundsAt(place));
            parts.set(RIDES, state.ridesAt(place));
            parts.set(HELD, state.ring.heldForAt(place));
            parts.set(EXIT, plan.exitAt(place));
            parts.set(SIDE, plan.sideAt(place));
            return test.value() != 0;
        }
    }
}
