/** Boundary cases of 'Terms' 3, the QUESTION, and of Promise 26. */
final class QuestionEdges {
    private QuestionEdges() {
    }

    @Says(in = "Terms 3", value = "A QUESTION is a TEXT of at most 200 bytes")
    static void a200thByte(Check c) {
        String text = "many place=" + "0".repeat(188) + "1";
        c.due("bytes", text.length(), 200);
        c.asked(new MergeBelts(), text, 1);
        c.refusedAsk("many place=1" + " ".repeat(187) + "^;", 1);
        c.refusedAsk("many place" + " ".repeat(189) + "=^", 1);
    }

    @Says(in = "Promise 26", value = "IllegalArgumentException: the tape has not so many, n below 0, above 200 (nothing changes).")
    static void a201stByte(Check c) {
        MergeBelts x = new MergeBelts();
        Check.feed(x, "many 1=1" + " ".repeat(212));
        c.illegal("ask(201)", () -> x.ask(201));
        c.illegal("ask(220)", () -> x.ask(220));
        c.illegal("ask(MAX)", () -> x.ask(Integer.MAX_VALUE));
        c.due("the tape stays", x.count(14), 220);
        c.due("ask(200)", x.ask(200), 4);
        c.due("it is empty then", x.count(14), 0);
    }

    @Says(in = "Promise 26", value = "IllegalArgumentException: the tape has not so many, n below 0, above 200 (nothing changes).")
    static void moreThanTheTapeHas(Check c) {
        MergeBelts x = new MergeBelts();
        c.illegal("ask(1) of an empty tape", () -> x.ask(1));
        Check.feed(x, "first place>2");
        c.illegal("ask(21)", () -> x.ask(21));
        c.due("the tape stays", x.count(14), 20);
        c.due("all that it has", x.ask(20), 3);
    }

    @Says(in = "Promise 26", value = "IllegalArgumentException: the tape has not so many, n below 0, above 200 (nothing changes).")
    static void fewerBytesThanNone(Check c) {
        MergeBelts x = new MergeBelts();
        Check.feed(x, "many 1=1");
        c.illegal("ask(-1)", () -> x.ask(-1));
        c.illegal("ask(MIN)", () -> x.ask(Integer.MIN_VALUE));
        c.due("the tape stays", x.ask(8), 4);
    }

    @Says(in = "Promise 26", value = "IllegalArgumentException: the tape has not so many, n below 0, above 200 (nothing changes).")
    static void nothingChanges(Check c) {
        c.changesNothing(() -> {
            MergeBelts x = new MergeBelts();
            Check.ask(x, "many ?");
            Check.feed(x, "many 1=1");
            return x;
        }, x -> {
            c.illegal("ask(21)", () -> x.ask(21));
            c.illegal("ask(201)", () -> x.ask(201));
            c.illegal("ask(-1)", () -> x.ask(-1));
        });
    }

    @Says(in = "Promise 26", value = "The tape's first n bytes (it is empty then, whatever comes of it) are a QUESTION")
    static void noneOfTheTapesBytes(Check c) {
        MergeBelts x = new MergeBelts();
        c.due("ask(0) of an empty tape", x.ask(0), -1000000001);
        c.due("its place", x.fault(), 0);
        Check.feed(x, "many 1=1");
        c.due("ask(0)", x.ask(0), -1000000001);
        c.due("the tape is empty all the same", x.count(14), 0);
    }

    @Says(in = "Promise 26", value = "The tape's first n bytes (it is empty then, whatever comes of it) are a QUESTION")
    static void onlyTheFirstBytes(Check c) {
        MergeBelts x = new MergeBelts();
        Check.feed(x, "many place=12");
        c.due("ask(12)", x.ask(12), 1);
        Check.feed(x, "many place=1;");
        c.due("ask(12)", x.ask(12), 1);
        c.due("the tape is empty", x.count(14), 0);
    }

    @Says(in = "Promise 26", value = "its answer; -1000000000 less the FAULT.")
    static void theTapeIsEmptyBehindAFault(Check c) {
        MergeBelts x = new MergeBelts();
        Check.feed(x, "many 1=10000");
        c.due("ask(12)", x.ask(12), -1000000002);
        c.due("fault()", x.fault(), 7);
        c.due("the tape", x.count(14), 0);
    }

    @Says(in = "Promise 26", value = "its answer; -1000000000 less the FAULT.")
    static void aFaultChangesNothingElse(Check c) {
        c.changesNothing(() -> {
            MergeBelts x = Check.of("belt 4;exit 1 1;ware 0;side 0 1 0 1;comes 0 0 1 0;");
            x.ticks(3);
            Check.ask(x, "many x");
            return x;
        }, x -> {
            Check.ask(x, "first {{{{{{{");
            Check.ask(x, "many x");
        });
    }

    @Says(in = "Terms 3", value = "It is asked of all PLACES: for how many it holds; the first one (NONE).")
    static void itHoldsForNoneAndForAll(Check c) {
        MergeBelts x = Check.of("belt 40;");
        c.asked(x, "many 1=2", 0);
        c.asked(x, "first 1=2", -1);
        c.asked(x, "many 1=1", 40);
        c.asked(x, "first 1=1", 0);
    }

    @Says(in = "Terms 3", value = "It is asked of all PLACES: for how many it holds; the first one (NONE).")
    static void itHoldsForTheFirstAndTheLastAlone(Check c) {
        MergeBelts x = Check.of("belt 40;");
        c.asked(x, "many place=0", 1);
        c.asked(x, "first place=0", 0);
        c.asked(x, "many place=39", 1);
        c.asked(x, "first place=39", 39);
        c.asked(x, "many place=40", 0);
        c.asked(x, "first place=40", -1);
        c.asked(x, "first place>38", 39);
        c.asked(x, "first place>39", -1);
        c.asked(x, "many place<1", 1);
        c.asked(x, "many place<0", 0);
    }

    @Says(in = "Terms 3", value = "VALUE: NUMBER (0 to 9999)")
    static void value0And9999(Check c) {
        MergeBelts x = new MergeBelts();
        c.asked(x, "many 0<9999", 4);
        c.asked(x, "many 9999=9999", 4);
        c.asked(x, "many 0009999=9999", 4);
        c.asked(x, "many 9999<9999", 0);
        c.asked(x, "many 9998<9999", 4);
        c.asked(x, "many 9999>9998", 4);
        c.asked(x, "many 9999>9999", 0);
    }

    @Says(in = "Terms 3", value = "VALUE: NUMBER (0 to 9999)")
    static void value10000(Check c) {
        c.refusedAsk("many ^10000=1", 2);
        c.refusedAsk("many 1<^10000", 2);
        c.refusedAsk("many ^4294967296=0", 2);
        c.refusedAsk("many ^" + "9".repeat(190) + "=0", 2);
        c.refusedAsk("many 0>^-1", 1);
    }

    @Says(in = "Terms 3", value = "'ware' (of its ITEM; -1 without), 'from' (its ITEM's SIDE; -1), 'round' (its ROUNDS; -1)")
    static void ofAFreePlace(Check c) {
        MergeBelts x = new MergeBelts();
        for (String word : "ware from round rides held exit side".split(" ")) {
            c.asked(x, "many " + word + "<0", 4);
            c.asked(x, "many " + word + "=0", 0);
            c.asked(x, "many not {" + word + "<0 or " + word + ">0 or " + word + "=0}", 0);
        }
    }

    @Says(in = "Terms 3", value = "'ware' (of its ITEM; -1 without), 'from' (its ITEM's SIDE; -1), 'round' (its ROUNDS; -1)")
    static void ofAnItemWhereAllIs0(Check c) {
        MergeBelts x = Check.of("belt 4;exit 0 1;ware 0;side 0 1 0 1;comes 0 0 30 0;");
        x.ticks(1);
        c.asked(x, "many ware=0 and from=0 and round=0 and rides=1", 1);
        c.asked(x, "first exit=0 and side=0 and held<0", 0);
        c.asked(x, "many ware<0 and from<0 and round<0 and rides<0 and held<0 and exit<0 and side<0", 3);
    }

    /** At PLACE 2 where EXIT 3 is: WARE 3 of SIDE 1, in its tenth TICK, of two ROUNDS. */
    @Says(in = "Terms 3", value = "'ware' (of its ITEM; -1 without), 'from' (its ITEM's SIDE; -1), 'round' (its ROUNDS; -1)")
    static void ofAnItemWhereNoTwoAreTheSame(Check c) {
        MergeBelts x = Check.of("belt 4;exit 0 1;exit 1 1;exit 3 1;ware 0;ware 0;ware 0;ware 0;exit 2 1;"
            + "side 0 1 0 1;side 1 9 1 1;");
        x.shut(0, 99);
        Check.push(x, 1, 1, 3);
        x.ticks(10);
        String[] words = "place ware from round rides held exit side".split(" ");
        int[] due = {2, 3, 1, 2, 10, -1, 3, -1};
        for (int k = 0; k < words.length; k++) {
            for (int value = 0; value < 12; value++) {
                c.asked(x, "many place=2 and " + words[k] + "=" + value, value == due[k] ? 1 : 0);
            }
            c.asked(x, "many place=2 and " + words[k] + "<0", due[k] == -1 ? 1 : 0);
        }
    }

    @Says(in = "Terms 3", value = "'rides' (TICKS since it went to THE BELT; -1), 'held' (the SIDE for which it is RESERVED; -1)")
    static void ofAGap(Check c) {
        MergeBelts x = Check.of("belt 4;exit 0 1;ware 0;side 2 3 1 1;");
        Check.push(x, 2, 0, 0);
        x.ticks(1);
        c.asked(x, "first held=0", 1);
        c.asked(x, "many held=0", 1);
        c.asked(x, "many held=0 and ware<0 and from<0 and round<0 and rides<0", 1);
    }

    @Says(in = "Terms 3", value = "'exit' (the EXIT there; -1), 'side' (the SIDE there; -1)")
    static void theLastExitAndTheLastSide(Check c) {
        MergeBelts x = Check.of("belt 6;exit 0 1;exit 1 1;exit 2 1;exit 3 1;exit 4 1;exit 5 1;"
            + "side 5 1 0 1;side 4 1 0 1;side 3 1 0 1;side 2 1 0 1;side 1 1 0 1;side 0 1 0 1;");
        c.asked(x, "many exit=place", 6);
        c.asked(x, "first exit=5", 5);
        c.asked(x, "first side=5", 0);
        c.asked(x, "many side>5", 0);
    }

    @Says(in = "Terms 3", value = "('many' | 'first') TEST")
    static void neitherManyNorFirst(Check c) {
        c.refusedAsk("^", 1);
        c.refusedAsk("  ^", 1);
        c.refusedAsk("^all 1=1", 1);
        c.refusedAsk("^place=1", 1);
        c.refusedAsk("^manyfirst 1=1", 1);
        c.refusedAsk("many ^first 1=1", 1);
        c.refusedAsk("many ^many 1=1", 1);
    }

    @Says(in = "Terms 3", value = "('many' | 'first') TEST")
    static void theEndBehindEachToken(Check c) {
        String[] tokens = "many not { place = 1 or 2 < ware } and from > 0".split(" ");
        StringBuilder text = new StringBuilder();
        for (int k = 0; k < tokens.length; k++) {
            text.append(k == 0 ? "" : " ").append(tokens[k]);
            if (k == 10 || k == 14) {
                c.asked(new MergeBelts(), text.toString(), k == 10 ? 3 : 0);
            } else {
                c.refusedAsk(text + "^", 1);
            }
        }
    }

    @Says(in = "Terms 3", value = "BOTH: FACT ('and' FACT)*.")
    static void nothingBesideAndAndOr(Check c) {
        c.refusedAsk("many ^and 1=1", 1);
        c.refusedAsk("many ^or 1=1", 1);
        c.refusedAsk("many 1=1 and^", 1);
        c.refusedAsk("many 1=1 or^", 1);
        c.refusedAsk("many 1=1 and ^or 1=1", 1);
        c.refusedAsk("many 1=1 ^1=1", 1);
        c.refusedAsk("many 1=1 ^not 1=1", 1);
    }

    @Says(in = "Terms 3", value = "FACT: 'not' FACT | '{' TEST '}' | VALUE ('<' | '=' | '>') VALUE.")
    static void braces(Check c) {
        c.refusedAsk("many {^}", 1);
        c.refusedAsk("many 1=1^}", 1);
        c.refusedAsk("many {1=1}^}", 1);
        c.refusedAsk("many {1=1^", 1);
        c.refusedAsk("many {{1=1}^", 1);
        c.refusedAsk("many {1^}=1", 1);
        c.refusedAsk("many ^(1=1)", 1);
    }

    @Says(in = "Terms 3", value = "FACT: 'not' FACT | '{' TEST '}' | VALUE ('<' | '=' | '>') VALUE.")
    static void comparisons(Check c) {
        c.refusedAsk("many 1^", 1);
        c.refusedAsk("many ^=1", 1);
        c.refusedAsk("many 1=^", 1);
        c.refusedAsk("many 1=^=1", 1);
        c.refusedAsk("many 1<^=1", 1);
        c.refusedAsk("many 1=1^=1", 1);
        c.refusedAsk("many 1^!1", 1);
        c.refusedAsk("many not^", 1);
        c.refusedAsk("many ^late=1", 1);
    }

    @Says(in = "Terms 3", value = "FACT: 'not' FACT | '{' TEST '}' | VALUE ('<' | '=' | '>') VALUE.")
    static void lessAndTheSameAndMore(Check c) {
        MergeBelts x = new MergeBelts();
        String[] facts = {"1<2", "2<2", "3<2", "1=2", "2=2", "3=2", "1>2", "2>2", "3>2"};
        boolean[] holds = {true, false, false, false, true, false, false, false, true};
        for (int k = 0; k < facts.length; k++) {
            c.asked(x, "many " + facts[k], holds[k] ? 4 : 0);
            c.asked(x, "many not " + facts[k], holds[k] ? 0 : 4);
            c.asked(x, "many 1=1 and " + facts[k], holds[k] ? 4 : 0);
            c.asked(x, "many " + facts[k] + " or 1=2", holds[k] ? 4 : 0);
        }
    }

    @Says(in = "Terms 3", value = "TEST: BOTH ('or' BOTH)*.")
    static void andAheadOfOr(Check c) {
        MergeBelts x = new MergeBelts();
        c.asked(x, "many place=1 or place<3 and place>1", 2);
        c.asked(x, "many place<3 and place>1 or place=1", 2);
        c.asked(x, "many {place=1 or place<3} and place>1", 1);
        c.asked(x, "many not place=1 and place<2", 1);
        c.asked(x, "many not {place=1 and place<2}", 3);
    }

    @Says(in = "Promise 26", value = "its answer; -1000000000 less the FAULT.")
    static void aQuestionBehindAFaultInBraces(Check c) {
        MergeBelts x = new MergeBelts();
        for (int k = 0; k < 20; k++) {
            c.due("a FAULT", Check.ask(x, "many 1=2 or not {1=1 and not {1=1 or {not 10000"), -1000000002);
            c.asked(x, "many {not {not {not place=1}}}", 3);
            c.due("a FAULT", Check.ask(x, "many {{{{{{1=1"), -1000000001);
            c.due("the end still", Check.ask(x, "many 1=1}"), -1000000001);
        }
    }

    @Says(in = "Promise 26", value = "its answer; -1000000000 less the FAULT.")
    static void manyLongQuestions(Check c) {
        MergeBelts x = new MergeBelts();
        String text = "many place=1" + " or place=2".repeat(17);
        c.due("bytes", text.length(), 199);
        for (int k = 0; k < 40; k++) {
            c.asked(x, k % 2 == 0 ? text : text.replace('2', '1'), k % 2 == 0 ? 2 : 1);
        }
    }

    @Says(in = "Terms 3", value = "(3: the 7th of 'not', '{' that are open at once, 'not' till its FACT ends)")
    static void sixNots(Check c) {
        c.asked(new MergeBelts(), "many not not not not not not place=1", 1);
        c.refusedAsk("many not not not not not not ^not place=1", 3);
    }

    @Says(in = "Terms 3", value = "(3: the 7th of 'not', '{' that are open at once, 'not' till its FACT ends)")
    static void sixBraces(Check c) {
        c.asked(new MergeBelts(), "many {{{{{{place=1}}}}}}", 1);
        c.refusedAsk("many {{{{{{^{place=1}}}}}}}", 3);
    }

    @Says(in = "Terms 3", value = "(3: the 7th of 'not', '{' that are open at once, 'not' till its FACT ends)")
    static void sixOfBoth(Check c) {
        c.asked(new MergeBelts(), "many not {not {not {place=1}}}", 3);
        c.refusedAsk("many not {not {not {^not place=1}}}", 3);
        c.refusedAsk("many not {not {not {^{place=1}}}}", 3);
        c.asked(new MergeBelts(), "many {not {not {not place=1}}}", 3);
    }

    @Says(in = "Terms 3", value = "(3: the 7th of 'not', '{' that are open at once, 'not' till its FACT ends)")
    static void sevenOneBehindAnother(Check c) {
        c.asked(new MergeBelts(), "many not 1=2 and not 1=2 and not 1=2 and not 1=2 and not 1=2 and not 1=2 and not 1=2", 4);
        c.asked(new MergeBelts(), "many {1=1} and {1=1} and {1=1} and {1=1} and {1=1} and {1=1} and {1=1}", 4);
    }

    @Says(in = "Terms 3", value = "(3: the 7th of 'not', '{' that are open at once, 'not' till its FACT ends)")
    static void aNotEndsWithItsFact(Check c) {
        c.asked(new MergeBelts(), "many not not not not not not 1=1 and not not not not not not 1=1", 4);
        c.asked(new MergeBelts(), "many not not {1=1} and {{{{{{1=1}}}}}}", 4);
        c.asked(new MergeBelts(), "many {not not not not {1=1} and not not not not not 1=2}", 4);
        c.refusedAsk("many {not not not not {1=1} and not not not not not ^not 1=2}", 3);
        c.refusedAsk("many not not not not not {1=1 and ^{1=1}}", 3);
        c.refusedAsk("many {{{{{not 1=1 and {1=1 and ^not", 3);
    }

    @Says(in = "Terms 3", value = "FAULTS as in 1")
    static void onlyTheFirstFault(Check c) {
        c.refusedAsk("many ^10000=10000", 2);
        c.refusedAsk("many ^? 10000", 1);
        c.refusedAsk("many 1 ^10000", 1);
        c.refusedAsk("many {{{{{{^{{10000", 3);
        c.refusedAsk("many {{{{{{1^{", 1);
        c.refusedAsk("many not not not not not not 1=1 ^not", 1);
    }
}
