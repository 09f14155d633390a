import java.io.File;
import java.nio.file.Files;
import java.nio.file.Path;
import java.nio.file.StandardCopyOption;
import java.util.Set;
import java.util.TreeSet;
import java.util.regex.Matcher;
import java.util.regex.Pattern;

/** README.md is done as written: its example prints what stands there, and it names the tests that there are. */
public final class ReadmeTest {
    private static final Due DUE = new Due();

    public static void main(String[] args) throws Exception {
        String readme = Files.readString(Path.of("README.md"));
        example(block(readme, "java"), block(readme, "sh"), block(readme, "text"));
        everyTestIsNamed(readme);
        DUE.end();
    }

    /** The first block of a kind. */
    private static String block(String readme, String kind) {
        Matcher found = Pattern.compile("(?s)```" + kind + "\n(.*?)```").matcher(readme);
        boolean isThere = found.find();
        DUE.holds("a block of " + kind, isThere);
        return isThere ? found.group(1) : "";
    }

    private static void example(String program, String commands, String due) throws Exception {
        Path room = Files.createTempDirectory("readme");
        Path source = room.resolve("src/main/java/HistoryCourt.java");
        Files.createDirectories(source.getParent());
        Files.copy(Path.of("src/main/java/HistoryCourt.java"), source, StandardCopyOption.REPLACE_EXISTING);
        Files.writeString(room.resolve("Example.java"), program);
        File printed = room.resolve("printed").toFile();
        Process process = new ProcessBuilder("sh", "-e", "-c", commands).directory(room.toFile())
            .redirectErrorStream(true).redirectOutput(printed).start();
        DUE.is("the example's exit code", process.waitFor(), 0);
        String got = Files.readString(printed.toPath());
        DUE.holds("the example prints\n" + got + "and due is\n" + due + "which", got.equals(due));
        remove(room.toFile());
    }

    private static void remove(File file) {
        File[] inside = file.listFiles();
        if (inside != null) {
            for (File one : inside) {
                remove(one);
            }
        }
        DUE.holds("the room of the example is given back", file.delete());
    }

    private static void everyTestIsNamed(String readme) {
        Set<String> there = new TreeSet<>();
        for (String file : new File("src/test/java").list()) {
            if (file.endsWith("Test.java")) {
                there.add(file.replace(".java", ""));
            }
        }
        Set<String> named = new TreeSet<>();
        Matcher name = Pattern.compile("`(\\w+Test)`").matcher(readme);
        while (name.find()) {
            named.add(name.group(1));
        }
        DUE.holds("the tests that are named, " + named + ", are those that there are, " + there, named.equals(there));
    }
}
