import java.nio.file.Files;
import java.nio.file.Path;
import java.util.regex.Matcher;
import java.util.regex.Pattern;

/** Those rules of LANGUAGE.md that can be seen in the text of the class. */
public final class LanguageTest {
    private static final String[] NEVER = {
        "\\bthrow\\b", "\\bthrows\\b", "\\btry\\b", "\\bcatch\\b", "\\bsynchronized\\b", "\\bassert\\b", "->", "::",
        "\\bpackage\\b", "\\bprotected\\b", "\\bObject\\b", "\\bSystem\\.(?!arraycopy)", "Exact\\(", "\\bThread\\b",
        "\\bRandom\\b", "\\bStream\\b", "\\bHashMap\\b", "\\bvar\\b", "\\bnative\\b", "\\bvolatile\\b",
        "\\bwhile \\(true\\)", "for \\(;;\\)", "static \\{", "[^\\x00-\\x7F]",
    };

    public static void main(String[] args) throws Exception {
        Due due = new Due();
        String text = Files.readString(Path.of("src/main/java/HistoryCourt.java"));
        String code = text.replaceAll("(?s)/\\*.*?\\*/", "").replaceAll("//[^\n]*", "");
        for (String never : NEVER) {
            Matcher found = Pattern.compile(never).matcher(code);
            due.holds("no " + never, !found.find());
        }
        Matcher imports = Pattern.compile("(?m)^import (.*);").matcher(code);
        while (imports.find()) {
            due.holds("import " + imports.group(1), imports.group(1).matches("java\\.util\\.(ArrayList|List|Arrays|Iterator)"));
        }
        due.holds("twelve classes at most", count("\\b(class|interface|enum|record) [A-Z]", code) <= 12);
        methods(due, code);
        statics(due, code);
        due.end();
    }

    private static int count(String what, String in) {
        Matcher found = Pattern.compile(what).matcher(in);
        int n = 0;
        while (found.find()) {
            n++;
        }
        return n;
    }

    private static void methods(Due due, String code) {
        Matcher head = Pattern.compile("(?m)^( +)[a-zA-Z][\\w \\[\\]]*?(\\w+)\\(([^()]*)\\) \\{$").matcher(code);
        int n = 0;
        while (head.find()) {
            n++;
            int end = code.indexOf("\n" + head.group(1) + "}", head.end());
            String body = code.substring(head.start(), Math.max(end, head.end()));
            due.holds(head.group(2) + " stays short", body.split("\n").length <= 60);
            due.holds(head.group(2) + " takes seven at most", head.group(3).split(",").length <= 7);
        }
        due.holds("methods are found", n > 50);
    }

    private static void statics(Due due, String code) {
        Matcher field = Pattern.compile("(?m)^ +((?:public |private )?static [^(]*?[=;])").matcher(code);
        while (field.find()) {
            due.holds(field.group(1) + " is final", field.group(1).contains("static final "));
        }
    }
}
