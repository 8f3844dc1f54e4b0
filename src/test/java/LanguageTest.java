import java.io.IOException;
import java.nio.file.Files;
import java.nio.file.Path;
import java.util.ArrayList;
import java.util.List;
import java.util.regex.Matcher;
import java.util.regex.Pattern;

/** The rules of LANGUAGE.md that can be seen in the program's text, and the face of the class. */
public final class LanguageTest {
    private static final Path PROGRAM = Path.of("src/main/java/NinepinAlley.java");
    private static final String[] NEVER = {
        "\\bthrow\\b", "\\btry\\b", "\\bcatch\\b", "\\bfinally\\b", "\\bsynchronized\\b", "\\bassert\\b", "\\bpackage\\b",
        "->", "::", "\\bhashCode\\b", "\\btoString\\b", "\\bSystem\\b", "\\bRandom\\b", "\\bThread\\b", "\\bprotected\\b",
        "Exact\\b", "\\bimport\\b", "\\bvolatile\\b", "\\btransient\\b", "\\bnative\\b", "\\bvar\\b", "\\byield\\b",
        "\\bdouble\\b", "\\bfloat\\b"};
    private static final Pattern METHOD = Pattern.compile(
            "^ +(public |private )?(static )?[A-Za-z\\[\\]]+ ([a-z][A-Za-z]*)\\((.*)\\) \\{$");
    private static final String[] FACE = {
        "feed", "end", "game", "fault", "has", "roll", "back", "clear", "sheet", "rolled", "frame", "points", "total",
        "come", "ways", "needs", "tear", "fits", "must", "falls", "split", "fewest", "leaves", "keep", "player", "meet",
        "place", "image", "octet", "on"};

    private static List<String> code() throws IOException {
        List<String> lines = new ArrayList<>();
        boolean comment = false;
        for (String line : Files.readAllLines(PROGRAM)) {
            comment = comment || line.strip().startsWith("/**");
            lines.add(comment ? "" : line.replaceAll("//.*", "").stripTrailing());
            comment = comment && !line.contains("*/");
        }
        return lines;
    }

    private static void words(List<String> code) {
        for (int i = 0; i < code.size(); i++) {
            for (String never : NEVER) {
                boolean found = Pattern.compile(never).matcher(code.get(i)).find();
                Check.due("line " + (i + 1) + " has " + never, found, false);
            }
            for (char c : code.get(i).toCharArray()) {
                Check.due("line " + (i + 1) + " has a sign above 126", c > 126, false);
            }
        }
    }

    private static void methods(List<String> code) {
        int publicOnes = 0;
        for (int i = 0; i < code.size(); i++) {
            Matcher m = METHOD.matcher(code.get(i));
            if (!m.matches()) {
                continue;
            }
            String indent = code.get(i).replaceAll("\\S.*", "");
            int end = i;
            while (!code.get(end).equals(indent + "}")) {
                end++;
            }
            String name = m.group(3);
            Check.due(name + " has at most 60 lines", end - i <= 60, true);
            Check.due(name + " takes at most seven", m.group(4).split(",").length <= 7, true);
            boolean open = "public ".equals(m.group(1));
            boolean ofFace = List.of(FACE).contains(name);
            Check.due(name + " is public and of the face, or neither", open, ofFace);
            publicOnes += open ? 1 : 0;
        }
        Check.due("methods of the face", publicOnes, FACE.length);
    }

    private static void classes(List<String> code) {
        int classes = 0;
        for (String line : code) {
            if (line.matches(".*\\bclass\\b.*")) {
                classes++;
                Check.due(line, line.equals("public final class NinepinAlley {")
                        || line.matches(" {4}private static final class [A-Za-z]+ \\{"), true);
            }
            if (line.matches(".*\\bstatic\\b.*(=|;)$|.*\\bstatic\\b.* = .*")) {
                Check.due(line, line.matches(".*\\bstatic final (int|long|boolean|char|String|int\\[\\]|long\\[\\]) .*"), true);
            }
        }
        Check.due("at most twelve classes", classes <= 12, true);
    }

    public static void main(String[] args) throws IOException {
        List<String> code = code();
        words(code);
        methods(code);
        classes(code);
        Check.due("public members but for the methods", code.stream()
                .filter(line -> line.matches(" +public .*") && !line.matches(".*\\) \\{")).count(), 2);
        Check.end();
    }
}
