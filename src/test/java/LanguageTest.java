import java.lang.reflect.Field;
import java.lang.reflect.Modifier;
import java.nio.file.Files;
import java.nio.file.Path;
import java.util.ArrayList;
import java.util.List;
import java.util.Map;
import java.util.TreeMap;
import java.util.regex.Matcher;
import java.util.regex.Pattern;

/** Those rules of LANGUAGE.md that can be seen in the text of the class. */
public final class LanguageTest {
    private static final String[] NEVER = {
        "\\bthrow\\b", "\\bthrows\\b", "\\btry\\b", "\\bcatch\\b", "\\bsynchronized\\b", "\\bassert\\b", "->", "::",
        "\\bpackage\\b", "\\bprotected\\b", "\\bObject\\b", "\\bSystem\\.(?!arraycopy)", "Exact\\(", "\\bThread\\b",
        "\\bRandom\\b", "\\bStream\\b", "\\bHashMap\\b", "\\bvar\\b", "\\bnative\\b", "\\bvolatile\\b",
        "\\bwhile \\(true\\)", "for \\(;;\\)", "static \\{", "[^\\x00-\\x7F]",
    };

    public static void main(String[] args) throws Exception {
        Due due = new Due();
        String text = Files.readString(Path.of("src/main/java/HistoryCourt.java"));
        String code = text.replaceAll("(?s)/\\*.*?\\*/", "").replaceAll("//[^\n]*", "");
        for (String never : NEVER) {
            Matcher found = Pattern.compile(never).matcher(code);
            due.holds("no " + never, !found.find());
        }
        Matcher imports = Pattern.compile("(?m)^import (.*);").matcher(code);
        while (imports.find()) {
            due.holds("import " + imports.group(1), imports.group(1).matches("java\\.util\\.(ArrayList|List|Arrays|Iterator)"));
        }
        due.holds("twelve classes at most", count("\\b(class|interface|enum|record) [A-Z]", code) <= 12);
        methods(due, code);
        statics(due, code);
        fields(due, HistoryCourt.class);
        for (Class<?> inside : HistoryCourt.class.getDeclaredClasses()) {
            fields(due, inside);
        }
        due.end();
    }

    private static int count(String what, String in) {
        Matcher found = Pattern.compile(what).matcher(in);
        int n = 0;
        while (found.find()) {
            n++;
        }
        return n;
    }

    private static void methods(Due due, String code) {
        Matcher head = Pattern.compile("(?m)^( +)[a-zA-Z][\\w \\[\\]]*?(\\w+)\\(([^()]*)\\) \\{$").matcher(code);
        Map<String, String> bodies = new TreeMap<>();
        int n = 0;
        while (head.find()) {
            n++;
            int end = code.indexOf("\n" + head.group(1) + "}", head.end());
            String body = code.substring(head.start(), Math.max(end, head.end()));
            due.holds(head.group(2) + " stays short", body.split("\n").length <= 60);
            due.holds(head.group(2) + " takes seven at most", head.group(3).split(",").length <= 7);
            bodies.merge(head.group(2), code.substring(head.end(), Math.max(end, head.end())), String::concat);
        }
        due.holds("methods are found", n > 50);
        for (String name : bodies.keySet()) {
            List<String> chain = deepest(due, name, bodies, new ArrayList<>());
            due.holds("eight deep at most: " + chain, chain.size() <= 8);
        }
    }

    /** Methods of one name count as one; a method that calls itself does not go deeper by that. */
    private static List<String> deepest(Due due, String name, Map<String, String> bodies, List<String> above) {
        List<String> here = new ArrayList<>(above);
        here.add(name);
        List<String> deepest = here;
        Matcher called = Pattern.compile("(?<!new )\\b(\\w+)\\(").matcher(bodies.get(name));
        while (called.find()) {
            String next = called.group(1);
            if (bodies.containsKey(next) && !next.equals(name)) {
                boolean isNew = !here.contains(next);
                due.holds("no recursion but of one method: " + here + " " + next, isNew);
                List<String> below = isNew ? deepest(due, next, bodies, here) : here;
                deepest = below.size() > deepest.size() ? below : deepest;
            }
        }
        return deepest;
    }

    private static void fields(Due due, Class<?> in) {
        int n = 0;
        for (Field field : in.getDeclaredFields()) {
            n += Modifier.isStatic(field.getModifiers()) ? 0 : 1;
        }
        due.holds(in.getSimpleName() + " has some twenty fields at most: " + n, n <= 20);
    }

    private static void statics(Due due, String code) {
        Matcher field = Pattern.compile("(?m)^ +((?:public |private )?static [^(]*?[=;])").matcher(code);
        while (field.find()) {
            due.holds(field.group(1) + " is final", field.group(1).contains("static final "));
        }
    }
}
