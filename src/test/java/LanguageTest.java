import java.io.IOException;
import java.nio.file.Files;
import java.nio.file.Path;
import java.util.Set;
import java.util.regex.Matcher;
import java.util.regex.Pattern;

/** What LANGUAGE.md rules out, as far as it can be seen in the lines of the class. */
public final class LanguageTest {
    private static final String[] RULED_OUT = {
        "throw", "throws", "try", "catch", "finally", "synchronized", "assert", "protected", "double", "float",
        "hashCode", "toString", "Random", "System\\.(?!arraycopy)", "->", "::", "\\w+Exact", "while", "do", "volatile",
        "transient", "native", "extends", "super",
    };
    private static final Set<String> LIBRARY = Set.of("System.arraycopy", "Arrays.fill", "Math.abs", "Math.max",
            "Math.min", "Integer.bitCount");
    private static final Set<String> OWN = Set.of("Row", "Script", "Roll", "Standing", "Deeds", "Giving", "Round");
    private static final Pattern METHOD = Pattern.compile("( {4}| {8})(?:public|private) [^=;]*\\(.*");
    private static final Pattern BOUNDED = Pattern.compile("for \\(int (\\w+) = [^;]*; [^;]*\\b\\1(?: \\+ 1)? (?:<|<=|>|>=) [^;]*; "
            + "\\1(?:\\+\\+|--| \\+= 2)\\) \\{");
    private static final Check c = new Check();

    public static void main(String[] args) throws IOException {
        String text = Files.readString(Path.of(args.length > 0 ? args[0] : "src/main/java/SighGuild.java"));
        String code = text.replaceAll("(?s)/\\*.*?\\*/", " ").replaceAll("//[^\n]*", " ");
        words(code);
        library(code);
        loops(code);
        methods(code.split("\n"));
        signs(text);
        c.end("LanguageTest");
    }

    private static void words(String code) {
        for (String word : RULED_OUT) {
            String whole = Character.isLetter(word.charAt(0)) ? "\\b" + word + "(?![A-Za-z])" : word;
            c.due("without " + word, Pattern.compile(whole).matcher(code).find() ? 1 : 0, 0);
        }
        c.due("no package", code.contains("package ") ? 1 : 0, 0);
        Matcher imports = Pattern.compile("import ([^;]*);").matcher(code);
        while (imports.find()) {
            c.due("import " + imports.group(1), imports.group(1).equals("java.util.Arrays") ? 1 : 0, 1);
        }
    }

    private static void library(String code) {
        Matcher calls = Pattern.compile("\\b([A-Z]\\w*[a-z]\\w*)\\.(\\w+)").matcher(code.replaceAll("import [^;]*;", ""));
        while (calls.find()) {
            boolean is = OWN.contains(calls.group(1)) || LIBRARY.contains(calls.group());
            c.due(calls.group() + " may be used", is ? 1 : 0, 1);
        }
        Matcher made = Pattern.compile("\\bnew (\\w+)").matcher(code);
        while (made.find()) {
            boolean is = OWN.contains(made.group(1)) || made.group(1).matches("int|byte");
            c.due("new " + made.group(1), is ? 1 : 0, 1);
        }
    }

    /** Each loop's end can be seen from its own line. */
    private static void loops(String code) {
        Matcher all = Pattern.compile("\\bfor \\(.*").matcher(code);
        int seen = 0;
        while (all.find()) {
            seen++;
            c.due(all.group() + " has a bound", BOUNDED.matcher(all.group()).matches() ? 1 : 0, 1);
        }
        c.due("loops", seen > 30 ? 1 : 0, 1);
    }

    /** Methods are short, and none but the constructor makes anything. */
    private static void methods(String[] lines) {
        int seen = 0;
        for (int from = 0; from < lines.length; from++) {
            Matcher m = METHOD.matcher(lines[from]);
            if (m.matches()) {
                seen++;
                String last = m.group(1) + "}";
                boolean isConstructor = lines[from].contains("public SighGuild()");
                int to = from;
                while (to < lines.length && !lines[to].equals(last)) {
                    c.due("makes nothing: " + lines[to], !isConstructor && lines[to].contains("new ") ? 1 : 0, 0);
                    to++;
                }
                c.due("sixty lines at most: " + lines[from], to - from < 60 ? 1 : 0, 1);
            }
        }
        c.due("methods", seen > 100 ? 1 : 0, 1);
    }

    private static void signs(String text) {
        c.due("signs 1 to 127 alone", text.chars().allMatch(s -> s >= 1 && s <= 127) ? 1 : 0, 1);
    }
}
