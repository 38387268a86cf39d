/** Promise 26: the QUESTION. */
public final class AskTest {
    private static final Check C = new Check();
    /** Behind three TICKS: 0 of SIDE 0 at 4, RESERVED for SIDE 1 at 5. */
    private static MergeBelts x;

    public static void main(String[] args) {
        x = Check.of("belt 8;exit 0 1;exit 3 1;ware 0;ware 1 urgent;side 2 4 0 1;side 7 4 2 2;");
        x.push(0, 0);
        x.push(1, 1);
        x.push(1, 0);
        x.ticks(1);
        x.push(1, 0);
        x.push(1, 0);
        x.ticks(1);
        values();
        tests();
        faults();
        length();
        rounds();
        C.end("AskTest");
    }

    private static void asked(String text, int answer) {
        C.asked(x, text, answer);
        C.due("the tape is empty", x.count(14), 0);
    }

    /** PLACE 3: WARE 0 of SIDE 0; 0: WARE 1 of SIDE 1, a ROUND; 7: WARE 0 of SIDE 1; 5 and 6 RESERVED for SIDE 1. */
    private static void values() {
        asked("many place<9", 8);
        asked("many place>3", 4);
        asked("first place>3", 4);
        asked("first place=7", 7);
        asked("first place=8", -1);
        asked("many place=8", 0);
        asked("many ware=0", 2);
        asked("first ware=0", 3);
        asked("first ware=1", 0);
        asked("many ware<0", 5);
        asked("many from=0", 1);
        asked("many from=1", 2);
        asked("many from<0", 5);
        asked("first round=1", 0);
        asked("many round=0", 2);
        asked("many round<0", 5);
        asked("first rides=1", 7);
        asked("many rides=2", 2);
        asked("many rides<0", 5);
        asked("many held=1", 2);
        asked("first held=1", 5);
        asked("many held<0", 6);
        asked("many exit<0", 6);
        asked("first exit=1", 3);
        asked("first exit=0", 0);
        asked("first side=1", 7);
        asked("many side<0", 6);
        asked("many 1<2", 8);
        asked("many 2<1", 0);
        asked("many 0009999=9999", 8);
        asked("many place=place", 8);
        asked("many from=side and from>0", 1);
    }

    private static void tests() {
        asked("many place=1 or place=2", 2);
        asked("many place<3 and place>0", 2);
        asked("many place=1 or place<5 and place>3", 2);
        asked("many place<5 and place>3 or place=1", 2);
        asked("many {place=1 or place<5} and place>0", 4);
        asked("many not place=1", 7);
        asked("many not place=1 and place<4", 3);
        asked("many not place=1 or place=1", 8);
        asked("many not {place=1 or place=2}", 6);
        asked("many not not place=1", 1);
        asked("many not {not place=1 and place<4}", 5);
        asked("many{{{{{{place=1}}}}}}", 1);
        asked("many {place=0} or {place=1} or {place=2} or {place=3} or {place=4} or {place=5} or {place=6}", 7);
        asked("many not place=0 and not place=1 and not place=2 and not place=3 and not place=4 and not place=5 and not place=6", 1);
        asked("many not not not not not not place=1", 1);
        asked("many not {not {not place=1}}and 1=1", 7);
        asked("many not{not{not{1=1}}}", 0);
        asked(" first\nplace=5 ", 5);
    }

    private static void fault(String text, int kind, int place) {
        C.due(text, Check.ask(x, text), -1000000000 - kind);
        C.due(text + " fault()", x.fault(), place);
        C.due("the tape is empty", x.count(14), 0);
    }

    private static void faults() {
        fault("", 1, 0);
        fault("  ", 1, 2);
        fault("some place=1", 1, 0);
        fault("many", 1, 4);
        fault("many place", 1, 10);
        fault("many place=", 1, 11);
        fault("many place==1", 1, 11);
        fault("many place<=1", 1, 11);
        fault("many place=-1", 1, 11);
        fault("many place=1=1", 1, 12);
        fault("many place=1;", 1, 12);
        fault("many place=1 not", 1, 13);
        fault("many place=1 and", 1, 16);
        fault("many place=1}", 1, 12);
        fault("many {place=1", 1, 13);
        fault("many {place=1 ", 1, 14);
        fault("many {place}=1", 1, 11);
        fault("many {}", 1, 6);
        fault("many (place=1)", 1, 5);
        fault("many late=1", 1, 5);
        fault("many and place=1", 1, 5);
        fault("many 10000=1", 2, 5);
        fault("many 1=10000", 2, 7);
        fault("many not not not not not not not place=1", 3, 29);
        fault("many {{{{{{{ place=1", 3, 11);
        fault("many not {not {not {not", 3, 20);
        fault("many not {not {not {not place=1}}}and 1=1", 3, 20);
        fault("many not {not {not {place=1 and not", 3, 32);
        fault("many {{{{{not place=1 and {not 1=1", 3, 27);
        fault("first {{{{{{1=1}}}}}} or {{{{{{{", 3, 31);
    }

    private static void length() {
        StringBuilder s = new StringBuilder("many 1=1");
        while (s.length() < 200) {
            s.append(' ');
        }
        asked(s.toString(), 8);
        Check.feed(x, s + " ");
        C.illegal("ask(201)", () -> x.ask(201));
        C.illegal("ask(-1)", () -> x.ask(-1));
        C.due("nothing changes", x.count(14), 220);
        C.due("the first 200", x.ask(200), 8);
        Check.feed(x, "many 1=1");
        C.illegal("the tape has not so many", () -> x.ask(21));
        C.due("the tape stays", x.ask(8), 8);
        Check.feed(x, "many 1=12");
        C.due("only the first n bytes", x.ask(8), 8);
        C.due("an empty one", x.ask(0), -1000000001);
        C.due("no ACT", x.count(13), 7);
    }

    private static void rounds() {
        x.shut(0, 99);
        x.ticks(16);
        C.due("TICKS since it went", Check.ask(x, "many rides>15"), 3);
        C.due("ROUNDS", Check.ask(x, "first round=2"), 3);
        C.due("ROUNDS", Check.ask(x, "many round=2"), 4);
    }
}
