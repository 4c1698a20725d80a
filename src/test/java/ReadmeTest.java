import java.io.IOException;
import java.lang.reflect.Method;
import java.lang.reflect.Modifier;
import java.nio.file.Files;
import java.nio.file.Path;
import java.util.List;
import java.util.regex.Matcher;
import java.util.regex.Pattern;

/** README.md's own lines of Java, with the answers that it tells; run from the project's folder. */
public final class ReadmeTest {
    private static final Checks CHECKS = new Checks();
    private static final Pattern ANSWER = Pattern.compile("^int (\\w+) = .*; +// (-?\\d+)");

    public static void main(String[] args) throws IOException {
        example();
        List<String> readme = Files.readAllLines(Path.of("README.md"));
        standsHereToo(readme, Files.readString(Path.of("src/test/java/ReadmeTest.java")));
        namesEveryCall(String.join("\n", readme));
        CHECKS.close();
    }

    static void tell(OrangeFight x, String text) {
        for (int from = 0; from < text.length(); from += 20) {
            int[] n = new int[5];
            for (int i = 0; i < 20; i++) {
                n[i / 4] = n[i / 4] << 8 | (from + i < text.length() ? text.charAt(from + i) : 0);
            }
            x.feed(n[0], n[1], n[2], n[3], n[4]);
        }
        x.end(text.length());
    }

    private static void example() {
        OrangeFight x = new OrangeFight();
        tell(x, "square 6 4; judge 0 2; cart 0 1 0 2 1; quarter morti 0 0 10 5; quarter picche 3 0 10 3;");
        int lines = x.town();
        CHECKS.due("lines", lines, 5);
        tell(x, "morti 3 2; picche 9 5 feint;");
        int plans = x.plans();
        CHECKS.due("plans", plans, 2);
        x.begin(7);
        int gone = x.on(1);
        CHECKS.due("gone", gone, 1);
        int kind = x.thrown(0, 2);
        CHECKS.due("kind", kind, 3);
        int hit = x.thrown(0, 3);
        CHECKS.due("hit", hit, 6);
        int marks = x.quarter(0, 3);
        CHECKS.due("marks", marks, 9);
        int wounds = x.quarter(0, 4);
        CHECKS.due("wounds", wounds, 3);
        int sure = x.sure(0);
        CHECKS.due("sure", sure, 17);
        tell(x, "wounds > 0 and not feints");
        int ones = x.sentence();
        CHECKS.due("ones", ones, 3);
        int first = x.said(0);
        CHECKS.due("first", first, 0);
        tell(x, "square 6 x;");
        int refused = x.town();
        CHECKS.due("refused", refused, -10);
        int fault = x.fault();
        CHECKS.due("fault", fault, 1);
        CHECKS.due("the TOWN stays", x.count(2), 2);
    }

    /** So that README and this test do not drift apart. */
    private static void standsHereToo(List<String> readme, String here) {
        boolean inside = false;
        int seen = 0;
        for (String line : readme) {
            if (line.startsWith("```")) {
                inside = line.equals("```java");
            } else if (inside) {
                String statement = line.replaceAll(" +// .*", "").strip();
                CHECKS.due("'" + statement + "' is tried", here.contains(statement), true);
                Matcher told = ANSWER.matcher(line);
                if (told.find()) {
                    String due = "CHECKS.due(\"" + told.group(1) + "\", " + told.group(1) + ", " + told.group(2) + ");";
                    CHECKS.due("'" + due + "' is asked", here.contains(due), true);
                }
                seen++;
            }
        }
        CHECKS.due("lines of Java in README.md", seen > 20, true);
    }

    private static void namesEveryCall(String readme) {
        for (Method call : OrangeFight.class.getDeclaredMethods()) {
            if (Modifier.isPublic(call.getModifiers())) {
                CHECKS.due(call.getName() + " is named", readme.contains("`" + call.getName() + "("), true);
            }
        }
    }
}
