import java.lang.reflect.Constructor;
import java.lang.reflect.Field;
import java.lang.reflect.Method;
import java.lang.reflect.Modifier;
import java.nio.file.Files;
import java.nio.file.Path;
import java.util.ArrayList;
import java.util.List;
import java.util.TreeSet;

/** The rules of ../shared/LANGUAGE.md that can be looked at from outside, and the room that calls take. */
public final class LanguageTest {
    private static final Check C = new Check();
    private static final String[] FACE = {
        "feed(int,int,int,int,int):int", "belt(int):int", "fault():int", "count(int):int", "place(int,int):int",
        "exit(int,int):int", "ware(int,int):int", "side(int,int):int", "waiting(int,int):int", "coming(int,int):int",
        "log(int,int):int", "ticks(int):int", "push(int,int):int", "shut(int,int):int", "change(int,int,int):int",
        "undo():int", "trial(int,int):int", "again(int):int", "rate(int,int):int", "load(int,boolean):long",
        "heaviest():int", "leastRoom(int,int):int", "bestReach(int,int):int", "without(int,int):int", "ask(int):int",
        "image():void", "back():boolean"};

    public static void main(String[] args) throws Exception {
        face();
        inside();
        source();
        room();
        wildArguments();
        C.end("LanguageTest");
    }

    private static String shape(Method m) {
        List<String> types = new ArrayList<>();
        for (Class<?> t : m.getParameterTypes()) {
            types.add(t.getSimpleName());
        }
        return m.getName() + "(" + String.join(",", types) + "):" + m.getReturnType().getSimpleName();
    }

    private static void face() throws Exception {
        TreeSet<String> shown = new TreeSet<>();
        TreeSet<String> names = new TreeSet<>();
        for (Method m : MergeBelts.class.getDeclaredMethods()) {
            if (!Modifier.isPrivate(m.getModifiers()) && !m.isSynthetic()) {
                C.due(m + " is public", Modifier.isPublic(m.getModifiers()) && !Modifier.isStatic(m.getModifiers()));
                shown.add(shape(m));
                names.add(m.getName());
            }
        }
        C.due("the face: " + shown, shown.equals(new TreeSet<>(List.of(FACE))));
        for (Class<?> c : classes()) {
            for (Method m : c.getDeclaredMethods()) {
                C.due(m + " bears no public name", c == MergeBelts.class && !Modifier.isPrivate(m.getModifiers())
                    || !names.contains(m.getName()));
            }
        }
        for (Field f : MergeBelts.class.getDeclaredFields()) {
            C.due(f + " is hidden", Modifier.isPrivate(f.getModifiers()) || f.getName().equals("NONE"));
        }
        int none = Modifier.PUBLIC | Modifier.STATIC | Modifier.FINAL;
        C.due("NONE", MergeBelts.class.getDeclaredField("NONE").getModifiers(), none);
        Constructor<?>[] made = MergeBelts.class.getDeclaredConstructors();
        C.due("one constructor", made.length, 1);
        C.due("without parameters", made[0].getParameterCount(), 0);
        C.due("public", Modifier.isPublic(made[0].getModifiers()));
        C.due("the class is public and final", MergeBelts.class.getModifiers(), Modifier.PUBLIC | Modifier.FINAL);
    }

    private static List<Class<?>> classes() {
        List<Class<?>> all = new ArrayList<>(List.of(MergeBelts.class.getDeclaredClasses()));
        all.add(MergeBelts.class);
        return all;
    }

    private static void inside() {
        C.due("at most twelve classes", classes().size() <= 12);
        for (Class<?> c : classes()) {
            int fields = 0;
            for (Field f : c.getDeclaredFields()) {
                boolean constant = Modifier.isStatic(f.getModifiers());
                C.due(f + " is final", !constant || Modifier.isFinal(f.getModifiers()));
                fields += constant || f.isSynthetic() ? 0 : 1;
            }
            C.due(c + " has at most twenty fields", fields <= 20);
            C.due(c + " is static, hidden", c == MergeBelts.class
                || Modifier.isStatic(c.getModifiers()) && !Modifier.isPublic(c.getModifiers()));
            for (Method m : c.getDeclaredMethods()) {
                C.due(m + " has at most seven parameters", m.getParameterCount() <= 7);
            }
        }
    }

    private static void source() throws Exception {
        String text = Files.readString(Path.of("src/main/java/MergeBelts.java"));
        for (String no : new String[] {"->", "::", "catch", "finally", "synchronized", "assert ", "@", "package ", "volatile",
            "Exact(", "instanceof", "goto", "toString", "hashCode", "System.out", "lambda"}) {
            C.due("no " + no, !text.contains(no));
        }
        int imports = 0;
        int from = -1;
        String[] lines = text.split("\n");
        for (int i = 0; i < lines.length; i++) {
            String line = lines[i];
            imports += line.startsWith("import ") ? 1 : 0;
            if (line.matches(" {4,8}[A-Za-z].*\\) (throws .*)?\\{")) {
                from = i;
            }
            if (line.matches(" {4}( {4})?\\}") && from >= 0) {
                C.due("a short method: " + lines[from].strip(), i - from <= 60);
                from = -1;
            }
            for (char sign : line.toCharArray()) {
                C.due("only signs 32 to 126", sign >= 32 && sign <= 126);
            }
            if (line.contains("throw new")) {
                C.due(line, line.strip().matches("(default: )?throw new (IllegalArgument|NoSuchElement)Exception\\(\\);"));
            }
        }
        C.due("two imports", imports, 2);
        for (int at = text.indexOf("/ "); at >= 0; at = text.indexOf("/ ", at + 1)) {
            String part = text.substring(at, Math.min(text.length(), at + 12));
            C.due("a divisor that is tested: " + part, part.startsWith("/ divisor") || part.startsWith("/ every"));
        }
    }

    /** Nothing but the document's two exceptions comes out of any call, whatever its arguments. */
    private static void wildArguments() throws Exception {
        int[] wild = {Integer.MIN_VALUE, -1000, -2, -1, 0, 1, 2, 3, 5, 6, 7, 14, 20, 40, 200, 500, 999, 1 << 16, Integer.MAX_VALUE};
        String[] texts = {"belt 4;", "belt 7;exit 3 2;ware 0;side 0 3 6 1;side 2 1 0 9;comes 0 0 1 0;comes 1 0 2 5;turns late-credit*held;"};
        java.util.Random random = new java.util.Random(7);
        List<Method> methods = new ArrayList<>();
        for (Method m : MergeBelts.class.getDeclaredMethods()) {
            if (Modifier.isPublic(m.getModifiers())) {
                methods.add(m);
            }
        }
        methods.sort(java.util.Comparator.comparing(Method::getName));
        for (int run = 0; run < 200; run++) {
            MergeBelts x = Check.of(texts[run % 2]);
            for (int k = 0; k < 400; k++) {
                Method m = methods.get(random.nextInt(methods.size()));
                Object[] given = new Object[m.getParameterCount()];
                for (int i = 0; i < given.length; i++) {
                    given[i] = m.getParameterTypes()[i] == boolean.class ? (Object) random.nextBoolean() : wild[random.nextInt(wild.length)];
                }
                outcome(x, m, given);
            }
        }
    }

    private static void outcome(MergeBelts x, Method m, Object[] given) throws Exception {
        try {
            m.invoke(x, given);
        } catch (java.lang.reflect.InvocationTargetException e) {
            Class<?> thrown = e.getCause().getClass();
            boolean told = List.of(m.getExceptionTypes()).contains(thrown);
            C.due(m.getName() + java.util.Arrays.toString(given) + " throws " + thrown, told);
        }
    }

    /** All calls of one run live in one room: what they make is counted. */
    private static void room() {
        com.sun.management.ThreadMXBean threads =
            (com.sun.management.ThreadMXBean) java.lang.management.ManagementFactory.getThreadMXBean();
        calls(new MergeBelts());
        long start = threads.getCurrentThreadAllocatedBytes();
        MergeBelts x = new MergeBelts();
        long made = threads.getCurrentThreadAllocatedBytes();
        calls(x);
        long end = threads.getCurrentThreadAllocatedBytes();
        C.due("a new object takes " + (made - start) + " bytes", made - start < 200000);
        C.due("calls take " + (end - made) + " bytes", end - made < 20000);
    }

    private static void calls(MergeBelts x) {
        for (int k = 0; k < 20; k++) {
            x.feed(0x62656c74, 0x20363b65, 0x78697420, 0x3320313b, 0x77617265);
            x.feed(0x20303b73, 0x69646520, 0x30203220, 0x3220313b, 0x20202020);
            x.belt(36);
            x.push(0, 0);
            x.ticks(9);
            x.push(0, 0);
            x.again(0);
            x.rate(0, 0);
            x.leastRoom(0, 50);
            x.bestReach(0, 50);
            x.without(0, 50);
            x.trial(50, 4);
            x.heaviest();
            x.load(0, true);
            x.image();
            x.undo();
            x.back();
        }
    }
}
