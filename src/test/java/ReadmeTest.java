import java.io.IOException;
import java.net.URL;
import java.net.URLClassLoader;
import java.nio.file.DirectoryStream;
import java.nio.file.Files;
import java.nio.file.Path;
import java.util.ArrayList;
import java.util.List;
import java.util.TreeSet;
import java.util.regex.Matcher;
import java.util.regex.Pattern;
import javax.tools.JavaCompiler;
import javax.tools.ToolProvider;

/** What README.md and EDGES.md say holds: the calls shown, the tests listed. It is run from the project's folder. */
public final class ReadmeTest {
    private static final Path TESTS = Path.of("src/test/java");

    public static void main(String[] args) throws Exception {
        String readme = Files.readString(Path.of("README.md"));
        shownCallsRun(readme);
        shownAnswers(readme);
        commandNamesWhatIsThere(readme);
        eachTestIsListed(readme);
        eachPromiseIsListed(readme);
        eachEdgeIsTested(Files.readString(Path.of("EDGES.md")));
        Due.close("ReadmeTest");
    }

    private static List<String> blocks(String page, String language) {
        List<String> found = new ArrayList<>();
        Matcher m = Pattern.compile("(?s)```" + language + "\n(.*?)```").matcher(page);
        while (m.find()) {
            found.add(m.group(1));
        }
        return found;
    }

    /** The blocks together are one program: what stands in a later one uses the object of the first. */
    private static void shownCallsRun(String readme) throws Exception {
        List<String> blocks = blocks(readme, "java");
        Due.is("blocks of calls", blocks.size(), 2);
        Path folder = Files.createTempDirectory("readme");
        Path file = folder.resolve("Shown.java");
        Path made = folder.resolve("Shown.class");
        try {
            Files.writeString(file, "public class Shown { public static void run() {\n" + String.join("", blocks) + "}}\n");
            JavaCompiler compiler = ToolProvider.getSystemJavaCompiler();
            Due.holds("a compiler", compiler != null);
            int rc = compiler.run(null, null, null, "-cp", System.getProperty("java.class.path"), "-d",
                folder.toString(), file.toString());
            Due.is("what README shows compiles", rc, 0);
            if (rc == 0) {
                try (URLClassLoader loader = new URLClassLoader(new URL[] {folder.toUri().toURL()})) {
                    loader.loadClass("Shown").getMethod("run").invoke(null);
                }
            }
        } finally {
            Files.deleteIfExists(made);
            Files.deleteIfExists(file);
            Files.deleteIfExists(folder);
        }
    }

    private static void shows(String readme, String line) {
        Due.holds("README shows " + line, readme.contains(line));
    }

    private static void shownAnswers(String readme) {
        FirstOne x = new FirstOne();
        shows(readme, "x.eater(0, 2, 6);          // kind 0, NUMBER 0, WANT 2, PACE 6: it is eater 0");
        Due.is("the first eater", x.eater(0, 2, 6), 0);
        Due.is("its kind", x.told(0, 0), 0);
        Due.is("its NUMBER", x.told(0, 2), 0);
        Due.is("its WANT", x.told(0, 3), 2);
        Due.is("its PACE", x.told(0, 4), 6);
        shows(readme, "x.eater(1, 503, 9);        // a QUICK one with NUMBER 5 that wants 3: eater 1");
        Due.is("the second eater", x.eater(1, 503, 9), 1);
        Due.is("QUICK", x.told(1, 0), 1);
        Due.is("NUMBER 5", x.told(1, 2), 5);
        Due.is("wants 3", x.told(1, 3), 3);
        shows(readme, "x.supper(1, 0, 0);");
        Due.holds("a supper is told in turn", x.supper(1, 0, 0) != -100000);
        shows(readme, "x.best(2, 0);");
        Due.is("the first one is for", x.best(2, 0), 1);
        String text = "takes 2 + cake; hunger want - had; worth 14 - late * 2;";
        shows(readme, text);
        Due.is("the text is read", Due.read(x, text), 1);
        Due.is("THE RULE that was", x.force(1), 0);
        Due.is("THE RULE", x.count(5), 1);
        Due.is("takes 2 + 2 + 1", x.ready(1), 5);
        Due.is("hunger want - had", x.told(0, 5), 2);
    }

    private static void commandNamesWhatIsThere(String readme) {
        List<String> blocks = blocks(readme, "sh");
        Due.is("blocks of commands", blocks.size(), 1);
        for (String block : blocks) {
            Matcher m = Pattern.compile("\\bsrc/\\S+").matcher(block);
            while (m.find()) {
                Due.holds(m.group() + " is there", Files.exists(Path.of(m.group())));
            }
        }
        Due.holds(".ci/run can be run", Files.isExecutable(Path.of(".ci/run")));
    }

    private static void eachTestIsListed(String readme) throws IOException {
        TreeSet<String> listed = new TreeSet<>();
        Matcher m = Pattern.compile("\\b[A-Z][A-Za-z]*Test\\b").matcher(tableOf(readme));
        while (m.find()) {
            listed.add(m.group());
        }
        try (DirectoryStream<Path> files = Files.newDirectoryStream(TESTS, "*Test.java")) {
            for (Path file : files) {
                String name = file.getFileName().toString().replace(".java", "");
                Due.holds(name + " is listed", listed.remove(name));
            }
        }
        Due.is("listed, but not there: " + listed, listed.size(), 0);
    }

    private static String tableOf(String readme) {
        StringBuilder table = new StringBuilder();
        for (String line : readme.split("\n")) {
            if (line.startsWith("| ")) {
                table.append(line).append('\n');
            }
        }
        return table.toString();
    }

    private static void eachPromiseIsListed(String readme) {
        boolean[] listed = new boolean[28];
        Matcher m = Pattern.compile("promises (\\d+)(?: to | and )(\\d+)").matcher(tableOf(readme));
        while (m.find()) {
            for (int p = Integer.parseInt(m.group(1)); p <= Integer.parseInt(m.group(2)); p++) {
                listed[p] = true;
            }
        }
        for (int p = 1; p <= 27; p++) {
            Due.holds("promise " + p + " is listed", listed[p]);
        }
    }

    /** A row's last cell is a list such as "TextTest.faults, openOnes, TableTest.kinds". */
    private static void eachEdgeIsTested(String edges) throws IOException {
        int rows = 0;
        for (String row : edges.split("\n")) {
            String[] cells = row.split("\\|");
            if (!row.startsWith("| ") || cells.length != 4 || !cells[3].contains("Test.")) {
                continue;
            }
            rows++;
            String test = "";
            for (String part : cells[3].trim().split(", ")) {
                int dot = part.indexOf('.');
                test = dot < 0 ? test : part.substring(0, dot);
                isCalled(test, part.substring(dot + 1));
            }
        }
        Due.holds("some sentences have boundary cases", rows > 50);
    }

    private static void isCalled(String test, String method) throws IOException {
        Path file = TESTS.resolve(test + ".java");
        Due.holds(test + " is there", Files.exists(file));
        if (Files.exists(file)) {
            String source = Files.readString(file);
            Due.holds(test + "." + method + " is there", source.contains("private static void " + method + "("));
            Due.holds(test + "." + method + " is called",
                Pattern.compile("(?m)^ {8}" + method + "\\(").matcher(source).find());
        }
    }
}
