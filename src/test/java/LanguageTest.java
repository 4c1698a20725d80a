import java.io.IOException;
import java.nio.file.Files;
import java.nio.file.Path;
import java.util.ArrayList;
import java.util.HashMap;
import java.util.HashSet;
import java.util.List;
import java.util.Map;
import java.util.Set;
import java.util.regex.Matcher;
import java.util.regex.Pattern;

/** What of ../shared/LANGUAGE.md can be seen in the text of OrangeFight.java; run from the project's folder. */
public final class LanguageTest {
    private static final Checks CHECKS = new Checks();
    private static final Set<String> FACE = Set.of("feed", "end", "town", "plans", "fault", "quarter", "cart", "cell", "begin", "on",
        "now", "thrown", "sand", "aims", "sure", "grid", "best", "days", "rows", "stand", "rests", "join", "look", "held", "walk",
        "alike", "order", "comes", "slippery", "dry", "table", "against", "reply", "who", "odds", "sentence", "said", "image",
        "restore", "count");
    private static final String[] RULED_OUT = {"->", "::", "Exact\\b", "\\bfinally\\b", "\\bsynchronized\\b", "\\bassert\\b",
        "\\bcatch\\b", "\\bvar\\b", "\\bprotected\\b", "^package\\b", "System\\.(?!arraycopy)", "\\bObject\\b", "\\bhashCode\\b",
        "\\btoString\\b", "\\bDouble\\b", "\\bStream", "\\bnull\\b", "\" \\+", "\\+ \""};
    private static final Pattern METHOD =
        Pattern.compile("^ +(public |private )?(static )?(int|long|boolean|void) (\\w+)\\(([^)]*)\\)[^;=]*\\{$");
    private static final Pattern CALL = Pattern.compile("\\b(\\w+)\\(");

    public static void main(String[] args) throws IOException {
        List<String> lines = Files.readAllLines(Path.of("src/main/java/OrangeFight.java"));
        plainSigns(lines);
        imports(lines);
        ruledOut(lines);
        methods(lines);
        statics(lines);
        classes(lines);
        depths(lines);
        CHECKS.close();
    }

    private static String code(String line) {
        String s = line.strip();
        return s.startsWith("*") || s.startsWith("/*") || s.startsWith("//") ? "" : line;
    }

    private static void plainSigns(List<String> lines) {
        for (String line : lines) {
            CHECKS.due("signs of '" + line + "'", line.chars().allMatch(c -> c >= 32 && c < 127), true);
            CHECKS.due("length of '" + line + "'", line.length() <= 130, true);
        }
    }

    private static void imports(List<String> lines) {
        for (String line : lines) {
            if (line.startsWith("import")) {
                CHECKS.due(line, Set.of("import java.util.Arrays;", "import java.util.NoSuchElementException;").contains(line), true);
            }
        }
    }

    private static void ruledOut(List<String> lines) {
        for (String line : lines) {
            for (String out : RULED_OUT) {
                CHECKS.due(out + " in '" + line + "'", Pattern.compile(out).matcher(code(line)).find(), false);
            }
            if (code(line).contains("throw ")) {
                CHECKS.due(line, line.strip().equals("throw new NoSuchElementException();"), true);
            }
        }
    }

    /** Rule 1: no other method bears a name of the face; rule 11: sixty lines and seven parameters at most. */
    private static void methods(List<String> lines) {
        List<String> seen = new ArrayList<>();
        for (int i = 0; i < lines.size(); i++) {
            Matcher m = METHOD.matcher(lines.get(i));
            if (!m.matches()) {
                continue;
            }
            boolean isPublic = "public ".equals(m.group(1));
            String name = m.group(4);
            CHECKS.due("method " + name + " is of the face", FACE.contains(name), isPublic);
            if (isPublic) {
                seen.add(name);
            }
            String indent = lines.get(i).substring(0, lines.get(i).indexOf(lines.get(i).strip()));
            int end = i;
            while (!lines.get(end).equals(indent + "}")) {
                end++;
            }
            CHECKS.due("lines of " + name, end - i < 60, true);
            CHECKS.due("parameters of " + name, m.group(5).split(",").length <= 7, true);
        }
        CHECKS.due("methods of the face", seen.size(), FACE.size());
    }

    private static void statics(List<String> lines) {
        for (String line : lines) {
            if (code(line).contains("static ") && code(line).contains("=")) {
                CHECKS.due(line, line.contains("static final int ") || line.contains("static final String "), true);
            }
        }
    }

    private static void classes(List<String> lines) {
        int many = 0;
        for (String line : lines) {
            if (code(line).matches(".*\\bclass \\w+ .*")) {
                many++;
                CHECKS.due(line, line.matches("public final class .*|    private static final class .*"), true);
            }
        }
        CHECKS.due("classes", many <= 12, true);
    }

    /** Rule 11: at most eight calls within one another, each method once (by its name alone, so rather too deep than not). */
    private static void depths(List<String> lines) {
        Map<String, Set<String>> calls = new HashMap<>();
        Set<String> within = new HashSet<>();
        for (String line : lines) {
            Matcher m = METHOD.matcher(line);
            if (m.matches()) {
                within = calls.computeIfAbsent(m.group(4), name -> new HashSet<>());
            } else {
                Matcher call = CALL.matcher(code(line));
                while (call.find()) {
                    within.add(call.group(1));
                }
            }
        }
        for (String name : FACE) {
            int depth = depth(name, calls, new ArrayList<>());
            CHECKS.due("depth of " + name + ", " + depth + ",", depth <= 8, true);
        }
    }

    private static int depth(String name, Map<String, Set<String>> calls, List<String> open) {
        if (!calls.containsKey(name) || open.contains(name)) {
            return 0;
        }
        int most = 0;
        open.add(name);
        for (String called : calls.get(name)) {
            most = Math.max(most, depth(called, calls, open));
        }
        open.remove(open.size() - 1);
        return most + 1;
    }
}
