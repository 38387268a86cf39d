/** Promises 18 to 25: TRIAL, AGAIN, RATE, LOAD, HEAVIEST, LEAST ROOM, BEST REACH, WITHOUT. */
public final class TrialTest {
    private static final Check C = new Check();

    public static void main(String[] args) {
        trial();
        again();
        againByLate();
        rate();
        load();
        leastRoom();
        bestReach();
        without();
        nothingStays();
        C.end("TrialTest");
    }

    private static void trial() {
        MergeBelts x = Check.of("belt 6;exit 4 1;exit 1 1;ware 0;ware 1;side 2 2 0 1;comes 0 0 1 0;comes 0 0 2 0;");
        C.due("trial(0, 0)", x.trial(0, 0), 0);
        C.due("trial(0, 2)", x.trial(0, 2), 0);
        C.due("TAKEN in 10 TICKS: from TICK 2 on", x.trial(10, 0), 8);
        C.due("LOST in 10 TICKS: ROOM is full behind TICK 0", x.trial(10, 1), 4);
        C.due("at PLACES", x.trial(10, 2), 2);
        C.due("that wait", x.trial(10, 3), 1);
        C.due("the longest JAM", x.trial(10, 4), 0);
        x.ticks(10);
        C.due("TAKEN in it alone", x.trial(10, 0), 10);
        C.due("LOST in it alone", x.trial(10, 1), 5);
        x.shut(0, 8);
        C.due("the longest JAM at its end", x.trial(2, 4), 3);
        C.due("JAM all round", x.trial(8, 4), 6);
        C.due("of the longest TRIAL", x.trial(500, 3), 1);
        MergeBelts none = new MergeBelts();
        C.due("no JAM without EXITS", none.trial(5, 4), 0);
        C.noSuch("another what", () -> x.trial(1, 5));
        C.noSuch("another what", () -> x.trial(1, -1));
        C.noSuch("NoSuchElementException is first", () -> x.trial(501, 5));
        C.illegal("trial(501, 0)", () -> x.trial(501, 0));
        C.illegal("trial(-1, 4)", () -> x.trial(-1, 4));
    }

    private static void again(String text, int t, int d) {
        MergeBelts x = Check.of(text);
        C.due("again(0) of " + text, x.again(0), t);
        C.due("again(1) of " + text, x.again(1), d);
    }

    private static void again() {
        again("belt 4;", 0, 1);
        again("belt 6;exit 3 1;ware 0;side 0 2 2 1;comes 0 0 4 0;", 0, 4);
        again("belt 6;exit 3 2;ware 0;side 0 2 2 1;comes 0 0 4 0;", 1, 4);
        again("belt 6;exit 3 1;ware 0;side 0 2 2 1;comes 0 0 4 10;", 10, 4);
        again("belt 6;exit 3 3;ware 0;side 0 2 2 1;comes 0 0 4 10;", 12, 4);
        again("belt 6;exit 3 9;ware 0;", 0, 1);
        again("belt 6;exit 3 1;ware 0;side 0 2 0 1;comes 0 0 29 0;comes 0 0 17 0;", 0, 493);
        again("belt 6;exit 3 1;ware 0;side 0 2 0 1;comes 0 0 29 0;comes 0 0 17 20;", 7, 493);
        again("belt 6;exit 3 1;ware 0;side 0 2 0 1;comes 0 0 29 0;comes 0 0 17 21;", -1, -1);
        again("belt 6;exit 3 1;ware 0;side 0 2 0 1;comes 0 0 29 0;comes 0 0 23 0;", -1, -1);
        again("belt 9;exit 3 1;ware 0;side 0 2 0 1;comes 0 0 20 0;comes 0 0 25 0;", 0, 100);
        MergeBelts x = Check.of("belt 6;exit 3 2;ware 0;side 0 2 2 1;comes 0 0 4 2;");
        C.due("from TICK 0 on", x.again(0), 3);
        x.ticks(2);
        C.due("from now on", x.again(0), 1);
        x.ticks(1);
        C.due("at once", x.again(0), 0);
        x.shut(0, 100);
        C.due("while SHUT nothing is as it was", x.again(0) >= 100);
        x.shut(0, 600);
        C.due("none in 500", x.again(0), -1);
        MergeBelts ring = Check.of("belt 7;exit 3 9;ware 0;side 0 2 2 1;");
        ring.push(0, 0);
        ring.ticks(1);
        ring.shut(0, 20);
        C.due("TAKEN in TICK 24, may take again in TICK 33", ring.again(0), 32);
        C.due("and all is still", ring.again(1), 1);
        C.noSuch("another what", () -> x.again(2));
        C.noSuch("another what", () -> x.again(-1));
        again("belt 4;exit 0 1;ware 0;side 0 1 0 1;comes 0 0 1 499;", 503, -1, true);
    }

    /** Where the first t alone is beyond 500 TICKS there is none. */
    private static void again(String text, int t, int d, boolean none) {
        MergeBelts x = Check.of(text);
        C.due(t + " is beyond", !none || x.again(0) == -1 && x.again(1) == d);
        x.ticks(4);
        C.due("from TICK 4 on t and d are 500 together", x.again(0), 499);
        C.due("d", x.again(1), 1);
    }

    /** One more that waits than ever goes on: who waits is the same each TICK, since when is not. */
    private static void againByLate() {
        String text = "belt 4;exit 2 1;ware 0;side 0 3 0 1;side 1 3 0 1;comes 0 0 1 0;";
        MergeBelts x = Check.of(text);
        x.push(1, 0);
        x.ticks(6);
        x.push(1, 0);
        C.due("not by late", x.again(0), 0);
        MergeBelts y = Check.of(text + "turns late*0;");
        y.push(1, 0);
        y.ticks(6);
        y.push(1, 0);
        C.due("'turns' asks for late, and it waits for ever", y.again(0), -1);
        MergeBelts z = Check.of(text + "turns waits;");
        z.push(1, 0);
        z.ticks(6);
        z.push(1, 0);
        C.due("not by other 'turns'", z.again(0), 0);
    }

    private static void rate() {
        MergeBelts x = Check.of("belt 8;exit 4 1;exit 6 1;ware 0;ware 1;side 2 1 0 1;side 5 1 0 1;comes 0 0 2 0;comes 0 0 3 0;comes 1 1 6 3;");
        C.due("d", x.again(1), 6);
        C.due("at EXIT 0", x.rate(0, 0), 4);
        C.due("at EXIT 1", x.rate(0, 1), 1);
        C.due("at all", x.rate(0, -1), 5);
        C.due("of SIDE 0", x.rate(1, 0), 4);
        C.due("of SIDE 1", x.rate(1, 1), 1);
        C.due("of all", x.rate(1, -1), 5);
        C.due("LOST of SIDE 0: in TICKS 0, 6, ..", x.rate(2, 0), 1);
        C.due("LOST of SIDE 1", x.rate(2, 1), 0);
        C.due("LOST of all", x.rate(2, -1), 1);
        C.noSuch("EXIT 2", () -> x.rate(0, 2));
        C.noSuch("SIDE 2", () -> x.rate(1, 2));
        C.noSuch("SIDE 2", () -> x.rate(2, 2));
        C.noSuch("-2", () -> x.rate(0, -2));
        C.noSuch("another what", () -> x.rate(3, -1));
        C.noSuch("another what", () -> x.rate(-1, 0));
        x.shut(0, 999);
        C.due("no AGAIN", x.rate(0, -1), -1);
        C.noSuch("no such i, though no AGAIN", () -> x.rate(1, 2));
        C.due("nothing at all", new MergeBelts().rate(0, -1), 0);
    }

    private static void load(MergeBelts x, int place, long upper, long lower) {
        C.due("load(" + place + ", false)", x.load(place, false), upper);
        C.due("load(" + place + ", true)", x.load(place, true), lower);
    }

    private static void load() {
        MergeBelts x = Check.of("belt 6;exit 2 1;exit 5 1;ware 0;ware 1;side 5 1 0 1;side 2 1 0 1;comes 0 0 4 0;comes 1 0 6 9;comes 1 1 4 0;");
        load(x, 0, 5, 12);
        load(x, 1, 5, 12);
        load(x, 2, 5, 12);
        load(x, 3, 5, 12);
        load(x, 4, 5, 12);
        load(x, 5, 5, 12);
        C.due("the least of several", x.heaviest(), 0);
        MergeBelts y = Check.of("belt 6;exit 2 1;exit 5 1;ware 0;ware 1;side 1 1 0 1;side 4 1 0 1;comes 0 0 30 0;comes 1 0 15 0;comes 0 1 10 0;");
        load(y, 1, 1, 5);
        load(y, 2, 1, 10);
        load(y, 3, 1, 10);
        load(y, 4, 1, 6);
        load(y, 5, 1, 15);
        load(y, 0, 1, 15);
        C.due("heaviest()", y.heaviest(), 1);
        y.ticks(50);
        C.due("whatever TICK it is", y.heaviest(), 1);
        StringBuilder many = new StringBuilder("belt 4;exit 0 1;ware 0;side 0 1 0 1;");
        for (int every : new int[] {29, 23, 19, 17, 13, 11, 7, 25, 27, 16, 1, 1}) {
            many.append("comes 0 0 ").append(every).append(" 0;");
        }
        MergeBelts z = Check.of(many.toString());
        long all = 2329089562800L;
        long upper = 2 * all;
        for (int every : new int[] {29, 23, 19, 17, 13, 11, 7, 25, 27, 16}) {
            upper += all / every;
        }
        load(z, 3, upper, all);
        load(new MergeBelts(), 0, 0, 1);
        C.due("heaviest() without COMINGS", new MergeBelts().heaviest(), 0);
        C.noSuch("load(6, false)", () -> x.load(6, false));
        C.noSuch("load(-1, true)", () -> x.load(-1, true));
    }

    private static void leastRoom() {
        MergeBelts x = Check.of("belt 6;exit 4 1;ware 0;side 2 1 0 1;side 0 5 0 1;comes 0 0 9 0;comes 0 0 9 0;comes 0 0 9 0;");
        C.due("three at once", x.leastRoom(0, 1), 3);
        C.due("three at once", x.leastRoom(0, 500), 3);
        C.due("none comes there", x.leastRoom(1, 500), 1);
        x.push(1, 0);
        x.push(1, 0);
        C.due("two wait now", x.leastRoom(1, 5), 2);
        x.change(0, 0, 20);
        C.due("whatever ROOM it has", x.leastRoom(0, 9), 3);
        MergeBelts y = Check.of("belt 6;exit 2 1;ware 0;side 2 1 0 1;side 1 1 0 1;comes 0 0 1 0;comes 1 0 1 0;");
        y.shut(0, 999);
        C.due("in TICK 20 the twentieth waits", y.leastRoom(0, 21), 20);
        C.due("none", y.leastRoom(0, 22), -1);
        C.noSuch("no SIDE", () -> x.leastRoom(2, 5));
        C.noSuch("NoSuchElementException is first", () -> x.leastRoom(-1, 0));
        C.illegal("leastRoom(0, 0)", () -> x.leastRoom(0, 0));
        C.illegal("leastRoom(0, 501)", () -> x.leastRoom(0, 501));
    }

    private static void bestReach() {
        MergeBelts x = Check.of("belt 10;exit 9 1;exit 0 1;ware 0;ware 1;side 2 20 0 1;side 5 20 0 1;comes 0 0 1 0;comes 1 0 1 0;");
        C.due("SIDE 0 fills all; SIDE 1 must have its gaps ahead of it: RESERVED where SIDE 0 can't go", x.bestReach(1, 100) > 3);
        C.due("SIDE 0 needs none", x.bestReach(0, 100), 0);
        C.due("whatever REACH it has", x.change(1, 1, 9), 0);
        C.due("SIDE 0 then", x.bestReach(0, 100) > 0);
        C.due("no PLACE in one TICK", x.bestReach(1, 1), 0);
        C.noSuch("no SIDE", () -> x.bestReach(2, 5));
        C.noSuch("NoSuchElementException is first", () -> x.bestReach(2, 0));
        C.illegal("bestReach(0, 0)", () -> x.bestReach(0, 0));
        C.illegal("bestReach(0, 201)", () -> x.bestReach(0, 201));
        MergeBelts y = Check.of("belt 4;exit 1 1;ware 0;side 0 3 3 1;");
        C.due("the least, if none goes", y.bestReach(0, 200), 0);
    }

    private static void without() {
        MergeBelts x = Check.of("belt 6;exit 4 1;ware 0;side 1 9 0 1;side 2 9 0 1;comes 0 0 1 0;comes 1 0 1 0;");
        C.due("without(1, 0)", x.without(1, 0), 0);
        C.due("SIDE 1 can go in TICK 0 alone: the others from TICK 3 on all the same", x.without(1, 50), 0);
        C.due("SIDE 1 without SIDE 0: in TICKS 2 to 49, not the one of TICK 2 alone", x.without(0, 50), 47);
        MergeBelts y = Check.of("belt 6;exit 4 9;ware 0;side 0 9 0 1;side 2 9 0 1;");
        y.push(0, 0);
        y.push(1, 0);
        C.due("what waits there doesn't go on: the other one is TAKEN", y.without(1, 5), 1);
        C.due("in the end it would be TAKEN too, were there none of it", y.without(1, 4), 0);
        C.due("SIDE 1 alone is TAKEN in TICK 2 in any case", y.without(0, 20), 0);
        MergeBelts z = Check.of("belt 8;exit 6 1;ware 0;side 2 9 0 1;side 4 9 3 1;comes 0 0 1 2;");
        z.push(1, 0);
        z.push(1, 0);
        z.push(1, 0);
        z.ticks(1);
        C.due("two are RESERVED", z.count(7), 2);
        C.due("what is RESERVED gets free where it comes to", z.without(1, 30), 0);
        MergeBelts w = Check.of("belt 6;exit 4 5;ware 0;side 0 9 0 1;side 3 9 0 1;");
        w.push(1, 0);
        w.ticks(1);
        w.push(0, 0);
        C.due("what is at PLACES goes on, and is none of all others", w.without(1, 4), 0);
        C.noSuch("no SIDE", () -> x.without(2, 5));
        C.noSuch("NoSuchElementException is first", () -> x.without(-1, -1));
        C.illegal("without(0, -1)", () -> x.without(0, -1));
        C.illegal("without(0, 501)", () -> x.without(0, 501));
        C.due("of the longest TRIAL", x.without(0, 500), 497);
    }

    private static void nothingStays() {
        MergeBelts x = Check.of("belt 9;exit 4 2;ware 0;side 0 3 5 2;side 6 3 8 1;comes 0 0 2 0;comes 1 0 3 1;turns late+credit;");
        x.ticks(20);
        x.shut(0, 7);
        String before = Look.of(x);
        int acts = x.count(13);
        x.trial(77, 0);
        x.again(0);
        x.rate(2, -1);
        x.leastRoom(0, 100);
        x.bestReach(1, 50);
        x.without(1, 200);
        x.load(3, true);
        x.heaviest();
        C.due("nothing stays", Look.of(x).equals(before));
        C.due("no ACTS", x.count(13), acts);
    }
}
