import java.io.IOException;
import java.nio.file.Files;
import java.nio.file.Path;
import java.util.ArrayList;
import java.util.List;
import java.util.Set;
import java.util.TreeSet;
import java.util.regex.Matcher;
import java.util.regex.Pattern;

/** Those rules of LANGUAGE.md that a look at the text can hold the program against. */
public final class LanguageTests extends Suite {
    private static final Set<String> FACE = Set.of("feed", "house", "evening", "calls", "come", "give", "quarter", "off", "undo", "judged",
        "value", "best", "may", "stay", "mean", "left", "close", "surely", "most", "enough", "peak", "habits", "talk", "fence", "rains",
        "tonight", "read", "sheets", "years", "mark", "score", "count");
    private static final Pattern METHOD = Pattern.compile(
        "^( {4}| {8})((?:public |private |static |final )*)(?:[\\w\\[\\]]+ )?(\\w+)\\(([^()]*)\\)(?: throws \\w+)? \\{$");

    public static void main(String[] args) throws IOException {
        LanguageTests tests = new LanguageTests();
        List<String> lines = Files.readAllLines(Path.of("src/main/java/LastsEvening.java"));
        tests.words(lines);
        tests.methods(lines);
        tests.close();
    }

    private static String bare(String line) {
        return line.replaceAll("\"[^\"]*\"", "\"\"").replaceAll("'.'", "''").replaceAll("//.*|^ *(/\\*\\*|\\*).*", "");
    }

    private void words(List<String> lines) {
        String[] forbidden = {"package ", "catch", "try", "finally", "synchronized", "assert", "->", "::", "Exact", "System.out", "Object",
            "hashCode", "toString", "float", "double", "protected", "\"\" \\+", "\\+ \"\"", "while", "var ", "static \\{", "@", "volatile",
            "Thread", "Random", "\\bint\\[\\]\\[", "interface", "enum ", "record "};
        for (String word : forbidden) {
            Pattern pattern = Pattern.compile(word.matches("\\w+") ? "\\b" + word + "\\b" : word);
            int found = 0;
            for (String line : lines) {
                found += pattern.matcher(bare(line)).find() ? 1 : 0;
            }
            due("lines with " + word, found, 0);
        }
        int classes = 0;
        int thrown = 0;
        for (String line : lines) {
            String text = bare(line);
            classes += text.matches(" *(public |private )?(static )?final class .*") ? 1 : 0;
            thrown += text.contains("throw new") && !text.contains("throw new NoSuchElementException();") ? 1 : 0;
            if (text.startsWith("import")) {
                due(line, text.equals("import java.util.NoSuchElementException;"), true);
            }
            if (text.matches(" {4}(private )?static .*=.*")) {
                due("a static field is final: " + line, text.contains(" final "), true);
            }
        }
        due("at most 12 classes: " + classes, classes <= 12, true);
        due("other exceptions thrown", thrown, 0);
    }

    private void methods(List<String> lines) {
        Set<String> faces = new TreeSet<>();
        for (int i = 0; i < lines.size(); i++) {
            Matcher m = METHOD.matcher(lines.get(i));
            if (!m.matches()) {
                continue;
            }
            String name = m.group(3);
            boolean isFace = m.group(1).length() == 4 && m.group(2).startsWith("public");
            if (isFace && !name.equals("LastsEvening")) {
                faces.add(name);
            } else {
                due("no other bears a name of the face: " + name, FACE.contains(name), false);
            }
            due("members of the class are public or private: " + name,
                m.group(1).length() == 8 || m.group(2).matches("(public|private).*"), true);
            due("at most seven parameters: " + name, m.group(4).split(",").length <= 7, true);
            int end = i;
            while (!lines.get(end).equals(m.group(1) + "}")) {
                end++;
            }
            due("at most 60 lines: " + name, end - i <= 60, true);
        }
        due("the face", new ArrayList<>(faces).equals(new ArrayList<>(new TreeSet<>(FACE))), true);
    }
}
