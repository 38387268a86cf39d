/** Boundary cases of 'Terms' 1, the SUM behind 'turns'. */
final class SumEdges {
    private SumEdges() {
    }

    /** The RANK by a SUM that asks for nothing of a SIDE. */
    private static void worth(Check c, String sum, int rank) {
        c.due("RANK by " + sum, Check.of("belt 4;side 0 1 0 1;turns " + sum + ";").side(0, 9), rank);
    }

    @Says(in = "Terms 1", value = "SUM: TERM (('+' | '-') TERM)*.")
    static void emptySum(Check c) {
        c.refused("belt 6;turns^;", 1);
        c.refused("belt 6;turns ^+1;", 1);
        c.refused("belt 6;turns ^-1;", 1);
    }

    @Says(in = "Terms 1", value = "SUM: TERM (('+' | '-') TERM)*.")
    static void nothingBehindTheLastSign(Check c) {
        c.refused("belt 6;turns 1+^;", 1);
        c.refused("belt 6;turns 1-^;", 1);
        c.refused("belt 6;turns 1*^;", 1);
        c.refused("belt 6;turns 1+^+1;", 1);
    }

    @Says(in = "Terms 1", value = "SUM: TERM (('+' | '-') TERM)*.")
    static void asManyTermsAsATextBears(Check c) {
        String sum = "1" + "+1".repeat(236);
        c.due("bytes", ("belt 4;side 0 1 0 1;turns " + sum + ";").length(), 500);
        worth(c, sum, 237);
    }

    @Says(in = "Terms 1", value = "TERM: PART ('*' PART)*.")
    static void asManyPartsAsATextBears(Check c) {
        worth(c, "3" + "*1".repeat(236), 3);
    }

    @Says(in = "Terms 1", value = "PART: NUMBER (0 to 9999)")
    static void part0(Check c) {
        worth(c, "0", 0);
    }

    @Says(in = "Terms 1", value = "PART: NUMBER (0 to 9999)")
    static void part9999(Check c) {
        worth(c, "9999", 9999);
    }

    @Says(in = "Terms 1", value = "PART: NUMBER (0 to 9999)")
    static void part10000(Check c) {
        c.refused("belt 6;turns ^10000;", 2);
        c.refused("belt 6;turns 9999*^10000;", 2);
    }

    @Says(in = "Terms 1", value = "'credit' | 'share' | 'waits' | 'room' | 'held' | 'late' | 'urgent' | 'side'")
    static void wordsThatAreNoPart(Check c) {
        for (String word : "place ware from round rides exit belt comes turns many not".split(" ")) {
            c.refused("belt 6;turns ^" + word + ";", 1);
        }
    }

    @Says(in = "Terms 1", value = "'credit' | 'share' | 'waits' | 'room' | 'held' | 'late' | 'urgent' | 'side'")
    static void partsOfASideWithoutAnything(Check c) {
        String[] words = "credit share waits room held late urgent side".split(" ");
        int[] due = {0, 9, 0, 20, 0, 0, 0, 1};
        for (int k = 0; k < words.length; k++) {
            MergeBelts x = Check.of("belt 4;side 0 1 0 1;side 1 20 3 9;turns " + words[k] + ";");
            c.due("RANK by " + words[k], x.side(1, 9), due[k]);
        }
    }

    /** Behind a TICK in which both might have PLACE 3: SIDE 1 waits with three, of which two are URGENT. */
    @Says(in = "Terms 1", value = "'credit' | 'share' | 'waits' | 'room' | 'held' | 'late' | 'urgent' | 'side'")
    static void partsOfABusySide(Check c) {
        String[] words = "credit share waits room held late urgent side".split(" ");
        int[] first = {0, 5, 0, 8, 0, 0, 0, 1};
        int[] holder = {0, 1, 1, 0, 0, 0, 1, 1};
        int[] due = {5, 5, 3, 8, 0, 1, 2, 1};
        for (int k = 0; k < words.length; k++) {
            MergeBelts x = Check.of("belt 8;exit 7 1;ware 0 urgent;ware 0;side 5 9 2 4;side 4 8 1 5;turns side*0+" + words[k] + ";");
            c.due("RANK at first", x.side(1, 9), first[k]);
            Check.push(x, 2, 0, 0);
            x.push(1, 1);
            Check.push(x, 2, 1, 0);
            x.push(1, 1);
            x.ticks(1);
            c.due("PLACE 3 by " + words[k], x.place(3, 4), holder[k]);
            c.due("RANK by " + words[k], x.side(1, 9), due[k]);
        }
    }

    @Says(in = "Terms 1", value = "'(' SUM ')'")
    static void bracketsFirst(Check c) {
        worth(c, "2*(3+4)", 14);
        worth(c, "(3+4)*2", 14);
        worth(c, "10-(3-2)", 9);
        worth(c, "10-(3-(2-(1-(5-(4-9)))))", 10 - (3 - (2 - (1 - (5 - (4 - 9))))));
        worth(c, "2*(2*(2*(2*(2*(2*(2+1)))))+1)", 2 * (2 * (2 * (2 * (2 * (2 * (2 + 1))))) + 1));
        worth(c, "(7)", 7);
    }

    @Says(in = "Terms 1", value = "'(' SUM ')'")
    static void emptyBrackets(Check c) {
        c.refused("belt 6;turns (^);", 1);
        c.refused("belt 6;turns 1+(^);", 1);
    }

    @Says(in = "Terms 1", value = "'(' SUM ')'")
    static void bracketsThatStayOpen(Check c) {
        c.refused("belt 6;turns (1^;", 1);
        c.refused("belt 6;turns ((1)^;", 1);
        c.refused("belt 6;turns (1^", 1);
    }

    @Says(in = "Terms 1", value = "'(' SUM ')'")
    static void oneMoreClosedThanOpen(Check c) {
        c.refused("belt 6;turns 1^);", 1);
        c.refused("belt 6;turns (1)^);", 1);
    }

    @Says(in = "Terms 1", value = "the 7th ( open at once")
    static void sixOpenAtOnce(Check c) {
        worth(c, "((((((5))))))", 5);
        worth(c, "1+(1+(1+(1+(1+(1+(1*2))))))", 8);
    }

    @Says(in = "Terms 1", value = "the 7th ( open at once")
    static void sevenOpenAtOnce(Check c) {
        c.refused("belt 6;turns ((((((^(5)))))));", 4);
        c.refused("belt 6;turns 1+(1+(1+(1+(1+(1+(1*^(2)))))));", 4);
    }

    @Says(in = "Terms 1", value = "the 7th ( open at once")
    static void sevenOneBehindAnother(Check c) {
        worth(c, "(1)+(1)+(1)+(1)+(1)+(1)+(1)", 7);
        worth(c, "((((((1))))))+((((((1))))))", 2);
        c.refused("belt 6;turns ((((((1))))))+((((((^(1)))))));", 4);
    }

    @Says(in = "Terms 1", value = "From the left; ints that wrap.")
    static void fromTheLeft(Check c) {
        worth(c, "10-3-2", 5);
        worth(c, "10-3+2", 9);
        worth(c, "0-1*2-3", -5);
        worth(c, "2+3*4", 14);
    }

    @Says(in = "Terms 1", value = "From the left; ints that wrap.")
    static void theGreatestAndTheLeastInt(Check c) {
        // 9999 * 9999 * 21 = 2099580021, 4790 * 9999 = 47895210, 8416 more are the greatest int
        worth(c, "9999*9999*21+4790*9999+8416", Integer.MAX_VALUE);
        worth(c, "0-9999*9999*21-4790*9999-8417", Integer.MIN_VALUE);
    }

    @Says(in = "Terms 1", value = "From the left; ints that wrap.")
    static void beyondTheGreatestInt(Check c) {
        worth(c, "9999*9999*21+4790*9999+8416+1", Integer.MIN_VALUE);
    }

    @Says(in = "Terms 1", value = "From the left; ints that wrap.")
    static void belowTheLeastInt(Check c) {
        worth(c, "0-9999*9999*21-4790*9999-8417-1", Integer.MAX_VALUE);
    }

    @Says(in = "Terms 1", value = "From the left; ints that wrap.")
    static void productsThatWrap(Check c) {
        worth(c, "9999*9999*9999", (int) 999700029999L);
        worth(c, "(0-9999)*9999*9999", (int) -999700029999L);
        worth(c, "256*256*256*256", 0);
        worth(c, "256*256*256*128", Integer.MIN_VALUE);
    }

    @Says(in = "Terms 1", value = "From the left; ints that wrap.")
    static void aRankThatWrappedIsTheLeast(Check c) {
        // both might have PLACE 3: 256 * 256 * 256 * 128 is far below 0, its half far above
        MergeBelts x = Check.of("belt 8;exit 0 1;ware 0;side 4 2 1 2;side 5 2 2 1;turns share*256*256*256*64;");
        for (int side = 0; side < 2; side++) {
            Check.push(x, 2, side, 0);
        }
        x.ticks(1);
        c.due("RANK of SIDE 0", x.side(0, 9), Integer.MIN_VALUE);
        c.due("RANK of SIDE 1", x.side(1, 9), 1 << 30);
        c.due("for whom PLACE 3 is RESERVED", x.place(3, 4), 1);
    }
}
