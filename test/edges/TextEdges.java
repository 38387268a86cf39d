/** Boundary cases of 'Terms' 1, its TEXT, TOKENS and FAULTS. */
final class TextEdges {
    private TextEdges() {
    }

    @Says(in = "Terms 1", value = "A TEXT of at most 500 bytes tells it.")
    static void textOf500Bytes(Check c) {
        c.stands("belt " + "0".repeat(493) + "6;", 6);
    }

    @Says(in = "Terms 1", value = "A TEXT of at most 500 bytes tells it.")
    static void textOf500BytesWithoutItsEnd(Check c) {
        c.refused("belt " + "0".repeat(494) + "6^", 1);
    }

    @Says(in = "Terms 1", value = "A TEXT of at most 500 bytes tells it.")
    static void textOf500BytesWithAFaultInTheLastOne(Check c) {
        c.refused("belt 6;" + " ".repeat(492) + "^;", 1);
    }

    @Says(in = "Terms 1", value = "A TEXT of at most 500 bytes tells it.")
    static void emptyText(Check c) {
        c.refused("^", 1);
    }

    @Says(in = "Terms 1", value = "A TEXT of at most 500 bytes tells it.")
    static void textOfBlanks(Check c) {
        c.refused(" \n  ^", 1);
    }

    @Says(in = "Terms 1", value = "a WORD is a row of small letters")
    static void theFirstAndTheLastLetterBelongToAWord(Check c) {
        c.refused("belt 6;^aexit 1 1;", 1);
        c.refused("belt 6;^zexit 1 1;", 1);
        c.refused("belt 6;^exita 1 1;", 1);
        c.refused("belt 6;^exitz 1 1;", 1);
    }

    @Says(in = "Terms 1", value = "a WORD is a row of small letters")
    static void theBytesBesideTheLettersDoNot(Check c) {
        c.refused("belt 6;exit^`1 1;", 1);
        c.refused("belt 6;exit^{1 1;", 1);
    }

    @Says(in = "Terms 1", value = "a WORD is a row of small letters")
    static void greatLetters(Check c) {
        c.refused("^Belt 6;", 1);
        c.refused("belt 6;^exiT 1 1;", 1);
        c.refused("belt 6;exit^A1 1;", 1);
        c.refused("belt 6;exit^Z1 1;", 1);
    }

    @Says(in = "Terms 1", value = "a WORD is a row of small letters")
    static void anotherFirstOrLastLetter(Check c) {
        String text = "belt 9;exit 0 1;ware 0 urgent;side 0 1 0 1;comes 0 0 1 0;turns credit+share+waits+room+held+late+urgent+side;";
        c.stands(text, 9);
        for (int k = 0; k < text.length(); k++) {
            boolean letter = Character.isLetter(text.charAt(k));
            int from = k;
            while (letter && from > 0 && Character.isLetter(text.charAt(from - 1))) {
                from--;
            }
            boolean edge = letter && (from == k || !Character.isLetter(text.charAt(k + 1)));
            if (edge) {
                c.refused(text.substring(0, k) + "q" + text.substring(k + 1), 1, from);
            }
        }
    }

    @Says(in = "Terms 1", value = "a WORD is a row of small letters")
    static void aLetterTooFewOrTooMany(Check c) {
        c.refused("^bel 6;", 1);
        c.refused("^belts 6;", 1);
        c.refused("belt 6;^exi 1 1;", 1);
        c.refused("belt 6;exit 0 1;ware 0 ^urgen;", 1);
        c.refused("belt 6;exit 0 1;ware 0 ^urgents;", 1);
        c.refused("belt 6;turns ^credi;", 1);
    }

    @Says(in = "Terms 1", value = "a NUMBER a row of figures (it counts as what it is, 007 as 7)")
    static void theFirstAndTheLastFigureBelongToANumber(Check c) {
        c.stands("belt 10;", 10);
        c.stands("belt 19;", 19);
        c.stands("belt 09;", 9);
    }

    @Says(in = "Terms 1", value = "a NUMBER a row of figures (it counts as what it is, 007 as 7)")
    static void theBytesBesideTheFiguresDoNot(Check c) {
        c.refused("belt 6^/;", 1);
        c.refused("belt 6^:;", 1);
        c.refused("belt ^/6;", 1);
        c.refused("belt ^:6;", 1);
    }

    @Says(in = "Terms 1", value = "a NUMBER a row of figures (it counts as what it is, 007 as 7)")
    static void noughtsAhead(Check c) {
        c.stands("belt 007;", 7);
        c.stands("belt 040;", 40);
        c.refused("belt ^0041;", 2);
        c.stands("belt 6;exit 000 009;", 6);
    }

    @Says(in = "Terms 1", value = "a NUMBER a row of figures (it counts as what it is, 007 as 7)")
    static void numbersThatDoNotWrapAround(Check c) {
        c.refused("belt ^4294967302;", 2);
        c.refused("belt ^18446744073709551622;", 2);
        c.refused("belt 6;exit ^4294967296 1;", 2);
        c.refused("belt 6;exit 0 ^4294967297;", 2);
        c.refused("belt 6;turns ^4294967296;", 2);
        c.refused("belt ^" + "9".repeat(400) + ";", 2);
    }

    @Says(in = "Terms 1", value = "any other byte but blanks (32, 10) is one by itself")
    static void eachByteWhereALineMayBegin(Check c) {
        for (int b = 0; b < 256; b++) {
            String text = "belt 4;" + (char) b;
            if (b == 32 || b == 10) {
                c.stands(text, 4);
            } else {
                c.refused(text, 1, 7);
            }
        }
    }

    @Says(in = "Terms 1", value = "any other byte but blanks (32, 10) is one by itself")
    static void eachByteBesideAWord(Check c) {
        for (int b = 0; b < 256; b++) {
            String text = "belt" + (char) b + "8;";
            if (b == 32 || b == 10 || b == '0') {
                c.stands(text, 8);
            } else if (b >= '1' && b <= '3') {
                c.stands(text, (b - '0') * 10 + 8);
            } else if (b >= '4' && b <= '9') {
                c.refused(text, 2, 4);
            } else {
                c.refused(text, 1, b >= 'a' && b <= 'z' ? 0 : 4);
            }
        }
    }

    @Says(in = "Terms 1", value = "blanks stand where one likes, not in WORDS, NUMBERS")
    static void blanksAroundEachToken(Check c) {
        MergeBelts x = Check.of(" \n belt \n 6 \n ; \n exit \n 1 \n 2 \n ; \n ware \n 0 \n urgent \n ; \n turns \n ( \n 1 \n + \n 2 \n ) \n ; \n ");
        c.due("count(1)", x.count(1), 1);
        c.due("ware(0, 1)", x.ware(0, 1), 1);
        c.due("count(15)", x.count(15), 1);
    }

    @Says(in = "Terms 1", value = "blanks stand where one likes, not in WORDS, NUMBERS")
    static void noBlankWhereNoneIsNeeded(Check c) {
        c.stands("belt6;exit1 2;ware0urgent;side0 1 0 1;comes0 0 1 0;turns(late+1)*2-credit;", 6);
    }

    @Says(in = "Terms 1", value = "blanks stand where one likes, not in WORDS, NUMBERS")
    static void blankInAWord(Check c) {
        c.refused("^be lt 6;", 1);
        c.refused("belt 6;^ex it 1 1;", 1);
    }

    @Says(in = "Terms 1", value = "blanks stand where one likes, not in WORDS, NUMBERS")
    static void blankInANumber(Check c) {
        c.refused("belt 4 ^0;", 1);
        c.refused("belt 4\n^0;", 1);
    }

    @Says(in = "Terms 1", value = "TEXT: 'belt' NUMBER ';' (LINE ';')*.")
    static void noLine(Check c) {
        c.stands("belt 4;", 4);
    }

    @Says(in = "Terms 1", value = "TEXT: 'belt' NUMBER ';' (LINE ';')*.")
    static void emptyLine(Check c) {
        c.refused("belt 4;^;", 1);
        c.refused("belt 4;exit 0 1;^;", 1);
    }

    @Says(in = "Terms 1", value = "TEXT: 'belt' NUMBER ';' (LINE ';')*.")
    static void twoBelts(Check c) {
        c.refused("belt 4;^belt 4;", 1);
    }

    @Says(in = "Terms 1", value = "TEXT: 'belt' NUMBER ';' (LINE ';')*.")
    static void noBeltAhead(Check c) {
        c.refused("^exit 0 1;", 1);
        c.refused("^6;", 1);
        c.refused("^;", 1);
    }

    @Says(in = "Terms 1", value = "'exit' NUMBER NUMBER (PLACE, PACE)")
    static void exitWithANumberTooFewOrTooMany(Check c) {
        c.refused("belt 6;exit^;", 1);
        c.refused("belt 6;exit 1^;", 1);
        c.refused("belt 6;exit 1 1 ^1;", 1);
    }

    @Says(in = "Terms 1", value = "'ware' NUMBER {'urgent'}?")
    static void wareWithANumberTooFewOrTooMany(Check c) {
        c.refused("belt 6;exit 0 1;ware^;", 1);
        c.refused("belt 6;exit 0 1;ware ^urgent;", 1);
        c.refused("belt 6;exit 0 1;ware 0 ^0;", 1);
    }

    @Says(in = "Terms 1", value = "'ware' NUMBER {'urgent'}?")
    static void urgentMayBeMissing(Check c) {
        MergeBelts x = Check.of("belt 6;exit 0 1;ware 0;ware 0 urgent;");
        c.due("ware(0, 1)", x.ware(0, 1), 0);
        c.due("ware(1, 1)", x.ware(1, 1), 1);
    }

    @Says(in = "Terms 1", value = "'ware' NUMBER {'urgent'}?")
    static void urgentTwice(Check c) {
        c.refused("belt 6;exit 0 1;ware 0 urgent ^urgent;", 1);
    }

    @Says(in = "Terms 1", value = "'side' NUMBER NUMBER NUMBER NUMBER (PLACE, ROOM, REACH, SHARE)")
    static void sideWithANumberTooFewOrTooMany(Check c) {
        c.refused("belt 6;side^;", 1);
        c.refused("belt 6;side 0 1 0^;", 1);
        c.refused("belt 6;side 0 1 0 1 ^1;", 1);
    }

    @Says(in = "Terms 1", value = "'comes' NUMBER NUMBER NUMBER NUMBER")
    static void comesWithANumberTooFewOrTooMany(Check c) {
        c.refused("belt 6;exit 0 1;ware 0;side 0 1 0 1;comes^;", 1);
        c.refused("belt 6;exit 0 1;ware 0;side 0 1 0 1;comes 0 0 1^;", 1);
        c.refused("belt 6;exit 0 1;ware 0;side 0 1 0 1;comes 0 0 1 0 ^0;", 1);
    }

    @Says(in = "Terms 1", value = "at the first TOKEN at which one of these is so it is that")
    static void onlyTheFirstFault(Check c) {
        c.refused("belt 6;exit ^9 0;exit 0 1;exit 0 1;;", 2);
        c.refused("belt 6;exit 0 1;exit ^0 0;", 3);
        c.refused("belt ^3;exit 9 9", 2);
        c.refused("belt 6;turns 1;^turns 10000;", 5);
    }

    @Says(in = "Terms 1", value = "at the first TOKEN at which one of these is so it is that")
    static void aWholeTextAheadOfTheFault(Check c) {
        c.refused("belt 6;exit 0 1;ware 0;side 0 1 0 1;comes 0 0 1 0;turns late;^x", 1);
    }

    @Says(in = "Terms 1", value = "(the first one of this list)")
    static void oneTooManyWhereItCanNotStand(Check c) {
        c.refused("belt 9;exit 0 1;exit 1 1;exit 2 1;exit 3 1;exit 4 1;exit 5 1 ^exit", 1);
        c.refused("belt 9;turns ((((((1^(", 1);
    }

    @Says(in = "Terms 1", value = "(the first one of this list)")
    static void turnsTwiceWhereTheyCanNotStand(Check c) {
        c.refused("belt 9;turns 1 ^turns 1;", 1);
        c.refused("belt 9;turns ^turns 1;", 1);
    }

    @Says(in = "Terms 1", value = "(the first one of this list)")
    static void aNumberTooGreatWhereNoneCanStand(Check c) {
        c.refused("belt 9;exit 3 1 ^99;", 1);
        c.refused("belt 9 ^99;", 1);
        c.refused("belt 9;turns 1 ^99999;", 1);
    }

    @Says(in = "Terms 1", value = "its place the TOKEN's first byte")
    static void theFirstByteOfALongToken(Check c) {
        c.refused("belt 6;exit 1 1; \n ^exitexitexit 1 1;", 1);
        c.refused("belt \n ^000000041;", 2);
    }

    @Says(in = "Terms 1", value = "1 it can't stand there (the end, where the text can't end: its length)")
    static void theEndBehindEachToken(Check c) {
        String[] tokens = "belt 6 ; exit 0 1 ; ware 0 urgent ; side 0 1 0 1 ; comes 0 0 1 0 ; turns ( 1 + 2 ) * late ;".split(" ");
        StringBuilder text = new StringBuilder();
        for (String token : tokens) {
            text.append(text.length() == 0 ? "" : " ").append(token);
            if (token.equals(";")) {
                c.stands(text.toString(), 6);
            } else {
                c.refused(text.toString(), 1, text.length());
            }
        }
    }

    @Says(in = "Terms 1", value = "1 it can't stand there (the end, where the text can't end: its length)")
    static void theEndBehindBlanks(Check c) {
        c.refused("belt 6  \n^", 1);
        c.refused("belt 6;exit 0 1\n ^", 1);
    }

    @Says(in = "Terms 1", value = "2 a NUMBER that isn't as told")
    static void signsAheadOfANumber(Check c) {
        c.refused("belt ^-6;", 1);
        c.refused("belt ^+6;", 1);
        c.refused("belt 6;exit ^-1 1;", 1);
    }

    @Says(in = "Terms 1", value = "5 the word of a second 'turns'")
    static void turnsOnce(Check c) {
        c.due("count(15)", Check.of("belt 6;turns 1;exit 0 1;").count(15), 1);
        c.due("without", Check.of("belt 6;exit 0 1;").count(15), 0);
    }

    @Says(in = "Terms 1", value = "5 the word of a second 'turns'")
    static void turnsTwice(Check c) {
        c.refused("belt 6;turns 1;^turns 1;", 5);
        c.refused("belt 6;turns 1;exit 0 1;^turns", 5);
    }
}
