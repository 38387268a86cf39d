import java.lang.reflect.InvocationTargetException;
import java.lang.reflect.Method;
import java.lang.reflect.Modifier;
import java.nio.file.DirectoryStream;
import java.nio.file.Files;
import java.nio.file.Path;
import java.util.regex.Matcher;
import java.util.regex.Pattern;

/** README.md: its calls answer what stands behind them, and it names every call and every test. */
public final class ReadmeTest {
    private static final Check C = new Check();
    private static final Pattern CALL = Pattern.compile("x\\.(\\w+)\\((.*?)\\); +// (-?\\w+).*");

    public static void main(String[] args) throws Exception {
        String page = Files.readString(Path.of("README.md"));
        calls(page);
        names(page);
        C.end("ReadmeTest");
    }

    /** All calls of its program on one object, in their order. */
    private static void calls(String page) throws Exception {
        int from = page.indexOf("```java\n");
        C.due("there is a program", from >= 0);
        String program = page.substring(from + 8, page.indexOf("```", from + 8));
        MergeBelts x = new MergeBelts();
        int run = 0;
        for (String line : program.split("\n")) {
            Matcher call = CALL.matcher(line);
            if (call.matches()) {
                answers(line, answer(x, call.group(1), call.group(2)), call.group(3));
                run++;
            } else {
                C.due(line + " is no call", line.startsWith("//") || line.equals("MergeBelts x = new MergeBelts();"));
            }
        }
        C.due("it calls something", run > 0);
    }

    private static void answers(String line, String got, String want) {
        C.due(line + " (" + got + ")", got.equals(want));
    }

    private static String answer(MergeBelts x, String name, String arguments) throws Exception {
        for (Method m : MergeBelts.class.getMethods()) {
            if (m.getName().equals(name) && m.getDeclaringClass() == MergeBelts.class) {
                try {
                    return String.valueOf(m.invoke(x, given(arguments)));
                } catch (InvocationTargetException e) {
                    return e.getCause().getClass().getSimpleName();
                }
            }
        }
        return "no such call";
    }

    private static Object[] given(String arguments) {
        String[] words = arguments.isEmpty() ? new String[0] : arguments.split(", ");
        Object[] given = new Object[words.length];
        for (int i = 0; i < words.length; i++) {
            boolean number = !words[i].equals("true") && !words[i].equals("false");
            given[i] = number ? (Object) Integer.valueOf(words[i]) : Boolean.valueOf(words[i]);
        }
        return given;
    }

    private static void names(String page) throws Exception {
        for (Method m : MergeBelts.class.getDeclaredMethods()) {
            if (Modifier.isPublic(m.getModifiers())) {
                C.due("it names " + m.getName(), page.contains("`" + m.getName() + "`") || page.contains("`" + m.getName() + "("));
            }
        }
        try (DirectoryStream<Path> tests = Files.newDirectoryStream(Path.of("test"), "*Test.java")) {
            for (Path test : tests) {
                String name = test.getFileName().toString().replace(".java", "");
                C.due("it names " + name, page.contains("| `" + name + "` |"));
            }
        }
    }
}
