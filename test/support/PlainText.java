import java.util.ArrayList;
import java.util.List;

/** The TEXT and the QUESTION read by descent over a list of tokens: a second reading of the document for the tests. */
final class PlainText {
    static final class Fault extends RuntimeException {
        final int kind;
        final int place;

        Fault(int kind, int place) {
            this.kind = kind;
            this.place = place;
        }
    }

    /** What a SUM or a TEST is worth, where names stand for numbers. */
    interface Worth {
        int of(java.util.function.ToIntFunction<String> names);
    }

    private record Token(String text, int place) {
        boolean isNumber() {
            return !text.isEmpty() && Character.isDigit(text.charAt(0));
        }
    }

    private final List<Token> tokens = new ArrayList<>();
    private int next;
    private int open;

    PlainText(String text) {
        java.util.regex.Matcher m = java.util.regex.Pattern.compile("[a-z]+|[0-9]+|[^ \n]", java.util.regex.Pattern.DOTALL)
                .matcher(text);
        while (m.find()) {
            tokens.add(new Token(m.group(), m.start()));
        }
        tokens.add(new Token("", text.length()));
    }

    private Token here() {
        return tokens.get(next);
    }

    private Fault fault(int kind) {
        return new Fault(kind, here().place());
    }

    private boolean sees(String... some) {
        return List.of(some).contains(here().text());
    }

    private String take(String... some) {
        if (!sees(some)) {
            throw fault(1);
        }
        return tokens.get(next++).text();
    }

    private int number(int least, int most) {
        if (!here().isNumber()) {
            throw fault(1);
        }
        java.math.BigInteger v = new java.math.BigInteger(here().text());
        if (v.compareTo(java.math.BigInteger.valueOf(least)) < 0 || v.compareTo(java.math.BigInteger.valueOf(most)) > 0) {
            throw fault(2);
        }
        next++;
        return v.intValue();
    }

    private int freshPlace(int places, List<int[]> there) {
        int v = number(0, places - 1);
        for (int[] one : there) {
            if (one[0] == v) {
                next--;
                throw fault(3);
            }
        }
        return v;
    }

    private void word(String word, int there, int most) {
        if (there >= most) {
            throw fault(4);
        }
        take(word);
    }

    void readBelt(PlainBelt b) {
        take("belt");
        b.n = number(4, 40);
        take(";");
        while (!sees("")) {
            readLine(b);
            take(";");
        }
    }

    private void readLine(PlainBelt b) {
        if (sees("exit")) {
            word("exit", b.exits.size(), 6);
            int place = freshPlace(b.n, b.exits);
            b.exits.add(new int[] {place, number(1, 9)});
        } else if (sees("ware")) {
            word("ware", b.wares.size(), 8);
            int exit = number(0, b.exits.size() - 1);
            b.wares.add(new int[] {exit, sees("urgent") ? 1 : 0});
            if (sees("urgent")) {
                next++;
            }
        } else if (sees("side")) {
            word("side", b.sides.size(), 6);
            int place = freshPlace(b.n, b.sides);
            b.sides.add(new int[] {place, number(1, 20), number(0, b.n - 1), number(1, 9)});
        } else if (sees("comes")) {
            word("comes", b.comings.size(), 12);
            int side = number(0, b.sides.size() - 1);
            b.comings.add(new int[] {side, number(0, b.wares.size() - 1), number(1, 30), number(0, 999)});
        } else if (sees("turns")) {
            if (b.turns != null) {
                throw fault(5);
            }
            next++;
            int from = next;
            b.turns = sum();
            for (Token t : tokens.subList(from, next)) {
                b.asksLate |= t.text().equals("late");
            }
        } else {
            throw fault(1);
        }
    }

    private Worth sum() {
        Worth left = term();
        while (sees("+", "-")) {
            Worth a = left;
            boolean plus = take("+", "-").equals("+");
            Worth b = term();
            left = names -> plus ? a.of(names) + b.of(names) : a.of(names) - b.of(names);
        }
        return left;
    }

    private Worth term() {
        Worth left = part();
        while (sees("*")) {
            Worth a = left;
            next++;
            Worth b = part();
            left = names -> a.of(names) * b.of(names);
        }
        return left;
    }

    private Worth part() {
        if (sees("(")) {
            if (open == 6) {
                throw fault(4);
            }
            open++;
            next++;
            Worth inside = sum();
            take(")");
            open--;
            return inside;
        }
        return value("credit", "share", "waits", "room", "held", "late", "urgent", "side");
    }

    private Worth value(String... words) {
        if (here().isNumber()) {
            int v = number(0, 9999);
            return names -> v;
        }
        String name = take(words);
        return names -> names.applyAsInt(name);
    }

    boolean many;

    Worth readQuestion() {
        many = take("many", "first").equals("many");
        Worth test = test();
        take("");
        return test;
    }

    private Worth test() {
        Worth left = both();
        while (sees("or")) {
            Worth a = left;
            next++;
            Worth b = both();
            left = names -> Math.max(a.of(names), b.of(names));
        }
        return left;
    }

    private Worth both() {
        Worth left = fact();
        while (sees("and")) {
            Worth a = left;
            next++;
            Worth b = fact();
            left = names -> Math.min(a.of(names), b.of(names));
        }
        return left;
    }

    private Worth fact() {
        if (!sees("not", "{")) {
            Worth a = placeValue();
            String sign = take("<", "=", ">");
            Worth b = placeValue();
            return names -> Integer.compare(a.of(names), b.of(names)) == "<=>".indexOf(sign) - 1 ? 1 : 0;
        }
        if (open == 6) {
            throw fault(3);
        }
        open++;
        boolean not = take("not", "{").equals("not");
        Worth inside = not ? fact() : test();
        if (!not) {
            take("}");
        }
        open--;
        return not ? names -> 1 - inside.of(names) : inside;
    }

    private Worth placeValue() {
        return value("place", "ware", "from", "round", "rides", "held", "exit", "side");
    }
}
