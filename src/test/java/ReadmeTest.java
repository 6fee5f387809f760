import java.lang.reflect.InvocationTargetException;
import java.lang.reflect.Method;
import java.nio.file.Files;
import java.nio.file.Path;
import java.util.ArrayList;
import java.util.List;
import java.util.Set;
import java.util.TreeSet;
import java.util.regex.Matcher;
import java.util.regex.Pattern;
import java.util.stream.Stream;

/** What README.md says is so: its runs of calls, the calls that it tells, and the files that it names. */
public final class ReadmeTest {
    private static final Pattern MADE = Pattern.compile("LogCluster x = new LogCluster\\((\\d+), (\\d+), (\\d+), (\\d+)\\);");
    private static final Pattern ROW = Pattern.compile("(x\\.\\w+\\(.*\\)); +// ([^:]+): .+");
    private static final Pattern CALL = Pattern.compile("x\\.(\\w+)\\((.*)\\)");
    private static final Pattern METHOD = Pattern.compile(" public (?:int|boolean|void) (\\w+)\\(([^)]*)\\)");

    private static int wrong = 0;
    private static int rows = 0;

    private static void due(String what, boolean holds) {
        if (!holds) {
            wrong++;
            System.out.println("not so: " + what);
        }
    }

    /** The lines of the blocks of a language, each block behind its own fence. */
    private static List<String> blocks(String text, String language) {
        List<String> found = new ArrayList<>();
        Matcher m = Pattern.compile("(?s)```" + language + "\n(.*?)\n```").matcher(text);
        while (m.find()) {
            found.add(m.group(1));
        }
        return found;
    }

    private static void runs(String readme) {
        List<String> found = blocks(readme, "java");
        due("two runs of calls", found.size() == 2);
        for (String run : found) {
            LogCluster x = null;
            for (String line : run.split("\n")) {
                Matcher made = MADE.matcher(line);
                Matcher row = ROW.matcher(line);
                if (made.matches()) {
                    x = new LogCluster(number(made, 1), number(made, 2), number(made, 3), number(made, 4));
                } else {
                    due("a call with its answer: " + line, x != null && row.matches());
                    if (x != null && row.matches()) {
                        rows++;
                        String answer = answerOf(x, row.group(1));
                        due(line + " (it answered " + answer + ")", answer.equals(row.group(2)));
                    }
                }
            }
        }
    }

    private static int number(Matcher m, int group) {
        return Integer.parseInt(m.group(group));
    }

    private static String answerOf(LogCluster x, String text) {
        Matcher call = CALL.matcher(text);
        if (!call.matches()) {
            return text.trim();
        }
        List<String> given = arguments(call.group(2));
        for (Method m : LogCluster.class.getMethods()) {
            if (m.getName().equals(call.group(1)) && m.getParameterCount() == given.size()) {
                Object[] values = new Object[given.size()];
                for (int i = 0; i < values.length; i++) {
                    String value = answerOf(x, given.get(i));
                    values[i] = m.getParameterTypes()[i] == int.class ? (Object) Integer.valueOf(value) : Boolean.valueOf(value);
                }
                return answerTo(x, m, values);
            }
        }
        return "no such call";
    }

    private static String answerTo(LogCluster x, Method m, Object[] values) {
        try {
            return String.valueOf(m.invoke(x, values));
        } catch (InvocationTargetException e) {
            return "throws " + e.getCause().getClass().getSimpleName();
        } catch (IllegalAccessException e) {
            return "no such call";
        }
    }

    /** Parted at the commas that are in no brackets. */
    private static List<String> arguments(String text) {
        List<String> found = new ArrayList<>();
        int depth = 0;
        int from = 0;
        for (int i = 0; i <= text.length(); i++) {
            char c = i < text.length() ? text.charAt(i) : ',';
            depth += c == '(' ? 1 : c == ')' ? -1 : 0;
            if (c == ',' && depth == 0) {
                found.add(text.substring(from, i).trim());
                from = i + 1;
            }
        }
        return found;
    }

    /** The table tells every call of the document's face, with its arguments as they are named there, and no other. */
    private static void calls(String readme, String document) {
        Set<String> asked = new TreeSet<>();
        Matcher m = METHOD.matcher(blocks(document, "java").get(0));
        while (m.find()) {
            asked.add(m.group(1) + "(" + m.group(2).replaceAll("(int|boolean) ", "") + ")");
        }
        Set<String> told = new TreeSet<>();
        for (String line : readme.split("\n")) {
            if (line.startsWith("| `")) {
                told.addAll(quoted(line.substring(0, line.indexOf("|", 1)), "[^`]+"));
            }
        }
        due("twenty calls in the document", asked.size() == 20);
        due("the calls " + told + " are those of the document", told.equals(asked));
    }

    private static Set<String> quoted(String text, String form) {
        Set<String> found = new TreeSet<>();
        Matcher m = Pattern.compile("`(" + form + ")`").matcher(text);
        while (m.find()) {
            found.add(m.group(1));
        }
        return found;
    }

    private static String part(String readme, String title) {
        int from = readme.indexOf("\n## " + title + "\n");
        int to = readme.indexOf("\n## ", from + 1);
        return from < 0 ? "" : readme.substring(from, to < 0 ? readme.length() : to);
    }

    private static void names(String readme) throws Exception {
        Set<String> classes = new TreeSet<>(List.of("LogCluster"));
        for (Class<?> c : LogCluster.class.getDeclaredClasses()) {
            classes.add(c.getSimpleName());
        }
        due("the classes are " + classes, quoted(part(readme, "How it is built"), "[A-Z]\\w+").equals(classes));
        Set<String> files = new TreeSet<>();
        try (Stream<Path> all = Files.list(Path.of("src/test/java"))) {
            all.forEach(file -> files.add(file.getFileName().toString().replace(".java", "")));
        }
        due("the tests and what they share are " + files, quoted(part(readme, "Tests"), "[A-Z]\\w+").equals(files));
        for (String path : quoted(readme, "[\\w./]*/[\\w./]+")) {
            due("there is " + path, Files.exists(Path.of(path)));
        }
        due(".ci/run is told as the way to run them", blocks(readme, "sh").equals(List.of(".ci/run")));
        due(".ci/run can be run", Files.isExecutable(Path.of(".ci/run")));
    }

    public static void main(String[] args) throws Exception {
        String readme = Files.readString(Path.of("README.md"));
        runs(readme);
        calls(readme, Files.readString(Path.of("../shared/DOC.md")));
        names(readme);
        System.out.println(wrong == 0 ? rows + " rows of README.md and what it names are so" : wrong + " things in README.md are not so");
        if (wrong != 0) {
            System.exit(1);
        }
    }
}
