import java.lang.reflect.InvocationTargetException;
import java.lang.reflect.Method;
import java.nio.file.Files;
import java.nio.file.Path;
import java.util.ArrayList;
import java.util.LinkedHashMap;
import java.util.List;
import java.util.Map;
import java.util.TreeSet;

/**
 * The boundary cases: each static method of a page that bears words of the document is a test of its own.
 * Without arguments: whether these words stand in ../shared/DOC.md, and each of its sections has some.
 * 'names': what tests there are; a name: that one by itself; 'all': one behind another.
 */
public final class EdgeTest {
    private static final Class<?>[] PAGES = {
        NewEdges.class, BeltEdges.class, TextEdges.class, SumEdges.class, TickEdges.class, TurnEdges.class,
        AgainEdges.class, TrialEdges.class, QuestionEdges.class, TapeEdges.class, LookEdges.class, ActEdges.class,
        KeepEdges.class};
    /** Far more than any case needs: one that is behind it doesn't end. */
    private static final int SECONDS = 120;

    public static void main(String[] args) throws Exception {
        if (args.length == 0) {
            sentences();
            return;
        }
        boolean fine = true;
        for (Method test : tests()) {
            if (args[0].equals("names")) {
                System.out.println(nameOf(test));
            } else if (args[0].equals("all") || args[0].equals(nameOf(test))) {
                fine &= holds(test);
            }
        }
        // halt: a case that doesn't end still stands open then
        Runtime.getRuntime().halt(fine && (args[0].equals("names") || ran > 0) ? 0 : 1);
    }

    private static int ran;

    private static List<Method> tests() {
        List<Method> tests = new ArrayList<>();
        for (Class<?> page : PAGES) {
            List<Method> own = new ArrayList<>(List.of(page.getDeclaredMethods()));
            own.removeIf(m -> !m.isAnnotationPresent(Says.class));
            own.sort(java.util.Comparator.comparing(Method::getName));
            tests.addAll(own);
        }
        return tests;
    }

    private static String nameOf(Method test) {
        return test.getDeclaringClass().getSimpleName() + "." + test.getName();
    }

    private static boolean holds(Method test) throws InterruptedException {
        ran++;
        Check c = new Check();
        Throwable[] thrown = new Throwable[1];
        Thread own = new Thread(() -> thrown[0] = run(test, c));
        own.setDaemon(true);
        own.start();
        own.join(1000L * SECONDS);
        if (own.isAlive()) {
            System.out.println("it does not end");
        }
        if (thrown[0] != null) {
            System.out.println("it throws " + thrown[0]);
        }
        boolean fine = !own.isAlive() && thrown[0] == null && c.wrong() == 0 && c.checks() > 0;
        if (!fine) {
            System.out.println("FAILED  " + nameOf(test) + ": " + test.getAnnotation(Says.class).in() + ": "
                + test.getAnnotation(Says.class).value());
        }
        return fine;
    }

    private static Throwable run(Method test, Check c) {
        try {
            test.invoke(null, c);
            return null;
        } catch (InvocationTargetException e) {
            return e.getCause();
        } catch (IllegalAccessException e) {
            return e;
        }
    }

    private static void sentences() throws Exception {
        Check c = new Check();
        Map<String, String> sections = sections();
        TreeSet<String> without = new TreeSet<>(sections.keySet());
        for (Method test : tests()) {
            Says says = test.getAnnotation(Says.class);
            without.remove(says.in());
            c.due(nameOf(test) + ": '" + says.value() + "' stands in " + says.in(),
                sections.getOrDefault(says.in(), "").contains(says.value()));
        }
        c.due("sections without a test of a boundary case: " + without, without.size(), 0);
        c.end("EdgeTest");
    }

    /** 'Terms 1' to 'Terms 3', 'Promise 1' to 'Promise 28' and what tells of the object's use; blanks and line ends as one blank. */
    private static Map<String, String> sections() throws Exception {
        Map<String, String> sections = new LinkedHashMap<>();
        String at = "";
        for (String line : Files.readAllLines(Path.of("../shared/DOC.md"))) {
            if (line.startsWith("## ")) {
                at = line.substring(3).split(":")[0];
            } else if (line.startsWith("==== ")) {
                at = "Terms " + line.substring(5).split("\\.")[0];
            }
            sections.merge(at, line, (a, b) -> (a + " " + b).replaceAll("\\s+", " "));
        }
        // the first line, the face (LanguageTest looks at it) and what isn't promised tell of no boundary
        sections.keySet().removeAll(List.of("", "The public face", "Terms", "Not promised"));
        return sections;
    }
}
