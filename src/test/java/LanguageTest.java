import java.io.IOException;
import java.nio.file.Files;
import java.nio.file.Path;
import java.util.regex.Matcher;
import java.util.regex.Pattern;

/** What of LANGUAGE.md shows in the source's own words. It is run from the project's folder. */
public final class LanguageTest {
    public static void main(String[] args) throws IOException {
        String source = Files.readString(Path.of("src/main/java/FirstOne.java"));
        for (int i = 0; i < source.length(); i++) {
            if (source.charAt(i) > 126) {
                Due.holds("a sign above 126 at " + i, false);
            }
        }
        String code = bare(source);
        String[] words = {"throw", "throws", "try", "catch", "finally", "synchronized", "assert", "package", "native",
            "volatile", "transient", "record", "enum", "interface", "abstract", "protected", "var", "yield", "Object",
            "System.out", "System.err", "System.currentTimeMillis", "System.nanoTime", "Random", "Thread", "Exact",
            "HashMap", "Map", "Set", "Optional", "Stream", "Exception", "Error", "float", "double", "hashCode",
            "toString"};
        for (String word : words) {
            Due.holds("no " + word, !Pattern.compile("\\b" + Pattern.quote(word) + "\\b").matcher(code).find());
        }
        Due.holds("no lambda", !code.contains("->"));
        Due.holds("no method reference", !code.contains("::"));
        Due.holds("no texts joined by +", !Pattern.compile("\"\\s*\\+|\\+\\s*\"").matcher(code).find());
        Due.holds("no static initialiser", !Pattern.compile("static\\s*\\{").matcher(code).find());
        Matcher imports = Pattern.compile("(?m)^import (.*);").matcher(code);
        while (imports.find()) {
            Due.holds("import " + imports.group(1), imports.group(1).equals("java.util.Arrays"));
        }
        whatIsMade(code);
        lengths(code);
        Due.close("LanguageTest");
    }

    /** The source without comments, texts and chars emptied. */
    private static String bare(String source) {
        return source.replaceAll("(?s)/\\*.*?\\*/", "").replaceAll("//[^\\n]*", "").replaceAll("\"[^\"\\n]*\"", "\"\"")
            .replaceAll("'\\\\?.'", "' '");
    }

    /** All rows stand in fields, all objects are made by the constructor: no call makes any. */
    private static void whatIsMade(String code) {
        int constructor = code.indexOf("public FirstOne()");
        int end = code.indexOf("\n    }", constructor);
        int at = 0;
        for (String line : code.split("\n", -1)) {
            if (line.contains("new ")) {
                boolean inConstructor = at > constructor && at < end;
                boolean inField = line.trim().startsWith("private final ");
                Due.holds("made once: " + line.trim(), inConstructor || inField);
            }
            at += line.length() + 1;
        }
    }

    private static void lengths(String code) {
        String[] lines = code.split("\n", -1);
        int begun = -1;
        String indent = "";
        for (int i = 0; i < lines.length; i++) {
            Matcher m = Pattern.compile("^(    |        )(public|private)[^=;]*\\)( throws .*)? \\{$").matcher(lines[i]);
            if (m.find()) {
                begun = i;
                indent = m.group(1);
            } else if (begun >= 0 && lines[i].equals(indent + "}")) {
                Due.holds("some sixty lines: " + lines[begun].trim(), i - begun <= 60);
                begun = -1;
            }
        }
    }
}
