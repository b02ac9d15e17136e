import java.io.IOException;
import java.nio.file.Files;
import java.nio.file.Path;
import java.util.regex.Matcher;
import java.util.regex.Pattern;

/** The rules of LANGUAGE.md that can be looked up in the text of the class. */
public final class LanguageTest {
    private static final String[] BARRED = {
        "\\bthrow\\b", "\\btry\\b", "\\bcatch\\b", "\\bsynchronized\\b", "\\bassert\\b", "->", "::", "\\bpackage\\b",
        "\\bSystem\\.(?!arraycopy)", "\\bstatic\\s*\\{", "\\w+Exact\\b", "\\bObject\\b", "\\bvar\\b", "@",
        "\\bMath\\.random\\b", "\\[\\]\\[\\]\\[\\]", "\\bhashCode\\b", "\\bequals\\b", "\\btoString\\b", "\\bvolatile\\b",
        "\\bimport\\s+(?!java\\.util\\.(Arrays|ArrayList|List|Iterator);)", "\\bprotected\\b", "\\bnative\\b",
    };

    public static void main(String[] args) throws IOException {
        Due due = new Due();
        String text = Files.readString(Path.of("src/main/java/GrowingTiles.java"));
        String bare = text.replaceAll("(?s)/\\*.*?\\*/", "").replaceAll("//[^\n]*", "");
        for (String barred : BARRED) {
            Matcher found = Pattern.compile(barred).matcher(bare);
            due.is("barred: " + barred, found.find(), false);
        }
        due.is("parameters of one method, most", mostParameters(bare) <= 7, true);
        due.is("lines of one method, most", mostLines(bare) <= 60, true);
        due.is("classes", Pattern.compile("\\bclass\\b").matcher(bare).results().count() <= 12, true);
        due.end();
    }

    private static int mostParameters(String text) {
        int most = 0;
        Matcher heads = Pattern.compile("\\w+\\(((?:[\\w\\[\\]]+ \\w+(?:,\\s*)?)+)\\) \\{").matcher(text);
        while (heads.find()) {
            most = Math.max(most, heads.group(1).split(",").length);
        }
        return most;
    }

    private static int mostLines(String text) {
        int most = 0;
        String[] lines = text.split("\n");
        for (int i = 0; i < lines.length; i++) {
            Matcher head = Pattern.compile("^( +)[\\w\\[\\] ]+\\(.*").matcher(lines[i]);
            if (!head.matches() || lines[i].endsWith(";")) {
                continue;
            }
            String end = head.group(1) + "}";
            int length = 0;
            while (i + length < lines.length && !lines[i + length].equals(end)) {
                length++;
            }
            most = Math.max(most, length);
        }
        return most;
    }
}
