import java.lang.reflect.Constructor;
import java.lang.reflect.Field;
import java.lang.reflect.Method;
import java.lang.reflect.Modifier;
import java.nio.file.Files;
import java.nio.file.Path;
import java.util.ArrayList;
import java.util.List;
import java.util.Map;
import java.util.Set;
import java.util.TreeMap;
import java.util.TreeSet;
import java.util.regex.Matcher;
import java.util.regex.Pattern;

/** The face by reflection, and those rules of LANGUAGE.md that can be seen without much reading. */
public final class LanguageTest {
    private static final String[] FACE = {
        "acked(int):int", "again(int,int):int", "coordinator(boolean):void", "count(int):int", "crash(int):boolean",
        "cut(int,int):boolean", "deliver(int):int", "drop(int):boolean", "got(int,int,int):int",
        "message(int,int):int", "owner(int):int", "peek(int,int,int):int", "restart(int):boolean",
        "segment(int,int,int):int", "send(int,int,int,int,int):int", "server(int,int):int", "sleep(int):boolean",
        "tick(int):int", "twice(int):int", "wake(int):boolean"};
    private static final String[] NOT_ALLOWED = {
        "->", "::", "\\bfinally\\b", "\\bsynchronized\\b", "\\bassert\\b", "\\btry\\b", "\\bcatch\\b", "\\bstatic\\s*\\{",
        "\\bvar\\b", "\\bSystem\\b", "\\bObject\\b", "\\bThread\\b", "\\.toString\\b", "\\.hashCode\\b", "\\.equals\\b",
        "\\w+Exact\\b", "\\bnew ArrayList<>\\([^)]", "\\blong\\b", "\\bdouble\\b", "\\bfloat\\b"};
    private static final int LONGEST_METHOD = 60;
    private static final int DEEPEST = 8;

    private static int wrong = 0;

    private static void due(String what, boolean holds) {
        if (!holds) {
            wrong++;
            System.out.println("not so: " + what);
        }
    }

    private static String textOf(Method m) {
        List<String> types = new ArrayList<>();
        for (Class<?> c : m.getParameterTypes()) {
            types.add(c.getSimpleName());
        }
        return m.getName() + "(" + String.join(",", types) + "):" + m.getReturnType().getSimpleName();
    }

    private static void face() {
        Set<String> found = new TreeSet<>();
        Set<String> names = new TreeSet<>();
        for (Method m : LogCluster.class.getDeclaredMethods()) {
            if (Modifier.isPublic(m.getModifiers())) {
                found.add(textOf(m));
                names.add(m.getName());
            } else {
                due("private " + m, Modifier.isPrivate(m.getModifiers()));
            }
        }
        due("the public methods are those of the document: " + found, found.equals(new TreeSet<>(List.of(FACE))));
        for (Method m : LogCluster.class.getDeclaredMethods()) {
            due("no private method has a public one's name: " + m, Modifier.isPublic(m.getModifiers()) || !names.contains(m.getName()));
        }
        for (Field f : LogCluster.class.getDeclaredFields()) {
            due("private " + f, Modifier.isPrivate(f.getModifiers()) || f.getName().equals("NONE") && Modifier.isPublic(f.getModifiers()));
        }
        due("public and final", Modifier.isPublic(LogCluster.class.getModifiers()) && Modifier.isFinal(LogCluster.class.getModifiers()));
        Constructor<?>[] makers = LogCluster.class.getDeclaredConstructors();
        due("one public constructor", makers.length == 1 && Modifier.isPublic(makers[0].getModifiers())
                && makers[0].getParameterCount() == 4);
        int throwing = 0;
        for (Method m : LogCluster.class.getMethods()) {
            throwing += m.getDeclaringClass() == LogCluster.class ? m.getExceptionTypes().length : 0;
        }
        due("message alone says what it throws", throwing == 1);
    }

    private static void classesInside() {
        Class<?>[] inside = LogCluster.class.getDeclaredClasses();
        due("twelve classes at most", inside.length + 1 <= 12);
        List<Class<?>> all = new ArrayList<>(List.of(inside));
        all.add(LogCluster.class);
        for (Class<?> c : all) {
            int fields = 0;
            for (Field f : c.getDeclaredFields()) {
                boolean constant = Modifier.isStatic(f.getModifiers());
                fields += constant ? 0 : 1;
                due("static fields are final: " + f, !constant || Modifier.isFinal(f.getModifiers()));
            }
            due("twenty fields at most: " + c, fields <= 20);
            due("static: " + c, c == LogCluster.class || Modifier.isStatic(c.getModifiers()));
            due("nothing inside it: " + c, c == LogCluster.class || c.getDeclaredClasses().length == 0);
            for (Method m : c.getDeclaredMethods()) {
                due("seven parameters at most: " + m, m.getParameterCount() <= 7);
            }
            for (Constructor<?> m : c.getDeclaredConstructors()) {
                due("seven parameters at most: " + m, m.getParameterCount() <= 7);
            }
        }
    }

    private static void source(String text) {
        String code = text.replaceAll("(?s)/\\*.*?\\*/", "").replaceAll("//[^\n]*", "").replaceAll("\"[^\"\n]*\"", "\"\"");
        for (String no : NOT_ALLOWED) {
            Matcher m = Pattern.compile(no).matcher(code);
            due("no " + no, !m.find());
        }
        Set<String> imports = new TreeSet<>();
        Matcher m = Pattern.compile("import ([\\w.*]+);").matcher(code);
        while (m.find()) {
            imports.add(m.group(1));
        }
        due("imports: " + imports, imports.equals(Set.of("java.util.ArrayList", "java.util.NoSuchElementException")));
        due("no package", !Pattern.compile("^package ", Pattern.MULTILINE).matcher(code).find());
        for (int i = 0; i < text.length(); i++) {
            due("plain characters", text.charAt(i) < 128);
        }
        Map<String, List<String>> methods = methods(code.split("\n"));
        methodLengths(methods);
        callDepth(methods);
    }

    /** The lines of each method and constructor by its name; names are used once, so that a call's name tells the method. */
    private static Map<String, List<String>> methods(String[] lines) {
        Map<String, List<String>> found = new TreeMap<>();
        for (int i = 0; i < lines.length; i++) {
            Matcher head = Pattern.compile("^( +)[\\w<>\\[\\] ]*?(\\w+)\\([^;]*\\{$").matcher(lines[i]);
            if (!head.find() || lines[i].trim().matches("(if|for|while|switch|else|\\}).*")) {
                continue;
            }
            int end = i;
            while (end < lines.length && !lines[end].equals(head.group(1) + "}")) {
                end++;
            }
            List<String> body = List.of(lines).subList(i + 1, Math.min(end, lines.length));
            due("a name of its own: " + lines[i].trim(), found.put(head.group(2), body) == null);
        }
        return found;
    }

    private static void methodLengths(Map<String, List<String>> methods) {
        methods.forEach((name, body) -> due("a short method: " + name, body.size() < LONGEST_METHOD - 1));
    }

    /** No recursion, and calls go at most eight deep. */
    private static void callDepth(Map<String, List<String>> methods) {
        int declared = LogCluster.class.getDeclaredMethods().length;
        for (Class<?> c : LogCluster.class.getDeclaredClasses()) {
            declared += c.getDeclaredMethods().length;
        }
        long found = methods.keySet().stream().filter(name -> Character.isLowerCase(name.charAt(0))).count();
        due("all " + declared + " methods were found, not " + found, found == declared);
        for (String name : methods.keySet()) {
            String deepest = deepestFrom(name, methods, "");
            due("at most eight deep: " + deepest, deepest.split(" ").length <= DEEPEST);
        }
    }

    private static String deepestFrom(String name, Map<String, List<String>> methods, String open) {
        String deepest = name;
        if (open.contains(" " + name + " ") || open.length() > 1000) {
            due("no recursion of " + name, false);
            return deepest;
        }
        Matcher m = Pattern.compile("(\\w+)(?:<>)?\\(").matcher(String.join("\n", methods.get(name)));
        while (m.find()) {
            if (methods.containsKey(m.group(1))) {
                String below = name + " " + deepestFrom(m.group(1), methods, open + " " + name + " ");
                deepest = below.split(" ").length > deepest.split(" ").length ? below : deepest;
            }
        }
        return deepest;
    }

    public static void main(String[] args) throws Exception {
        face();
        classesInside();
        source(Files.readString(Path.of(args[0])));
        System.out.println(wrong == 0 ? "the rules that are looked at are kept" : wrong + " rules are not kept");
        if (wrong != 0) {
            System.exit(1);
        }
    }
}
