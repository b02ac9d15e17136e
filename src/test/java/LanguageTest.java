import java.io.IOException;
import java.lang.reflect.Field;
import java.lang.reflect.Modifier;
import java.nio.file.Files;
import java.nio.file.Path;
import java.util.ArrayList;
import java.util.Arrays;
import java.util.List;
import java.util.Map;
import java.util.Set;
import java.util.TreeMap;
import java.util.regex.Matcher;
import java.util.regex.Pattern;

/** The rules of LANGUAGE.md that can be looked up in the text of the class; the rows are named by the rule's number. */
public final class LanguageTest {
    private static final String[] BARRED = {
        "\\bthrow\\b", "\\btry\\b", "\\bcatch\\b", "\\bsynchronized\\b", "\\bassert\\b", "->", "::", "\\bpackage\\b",
        "\\bstatic\\s*\\{", "\\bObject\\b", "\\bvar\\b", "@", "\\[\\]\\[\\]\\[\\]", "\\bhashCode\\b", "\\bequals\\b",
        "\\btoString\\b", "\\bvolatile\\b", "\\bimport\\s+(?!java\\.util\\.(Arrays|ArrayList|List|Iterator);)",
        "\\bprotected\\b", "\\bnative\\b", "\\bjava\\.(?!util\\.)", "\\bwhile\\s*\\(\\s*true\\b", "\\bfor\\s*\\(\\s*;",
    };
    private static final Set<String> LIBRARY = Set.of("System.arraycopy", "Arrays.fill", "Math.min", "Long.bitCount",
        "Long.numberOfTrailingZeros");
    private static final Set<String> NO_METHODS = Set.of("if", "for", "while", "switch");
    private static final Pattern HEAD = Pattern.compile(
        "^( {4}| {8})(?:(?:public|private|static|final) )*(?:[\\w\\[\\]]+ )?(\\w+)\\(([^;]*)\\) \\{$");

    private final Due due = new Due();
    private final String text;
    /** The lines of each method, and of each constructor, behind its head. */
    private final Map<String, List<String>> methods = new TreeMap<>();

    private LanguageTest(String text) {
        this.text = text;
    }

    public static void main(String[] args) throws IOException {
        String text = Files.readString(Path.of("src/main/java/GrowingTiles.java"));
        String bare = text.replaceAll("(?s)/\\*.*?\\*/", "").replaceAll("//[^\n]*", "");
        LanguageTest test = new LanguageTest(bare);
        test.readMethods();
        test.lookUpBarred();
        test.lookUpLibrary();
        test.lookUpSizes();
        test.lookUpDepth();
        test.lookUpNew();
        test.lookUpFields();
        test.due.end();
    }

    private void readMethods() {
        String[] lines = text.split("\n");
        for (int i = 0; i < lines.length; i++) {
            Matcher head = HEAD.matcher(lines[i]);
            if (!head.matches() || NO_METHODS.contains(head.group(2))) {
                continue;
            }
            List<String> body = new ArrayList<>();
            for (int k = i + 1; k < lines.length && !lines[k].equals(head.group(1) + "}"); k++) {
                body.add(lines[k]);
            }
            due.is("one method of the name " + head.group(2), methods.put(head.group(2), body) == null, true);
            due.is("11: parameters of " + head.group(2), head.group(3).split(",").length <= 7, true);
        }
        due.is("methods were found", methods.size() >= 30, true);
    }

    private void lookUpBarred() {
        for (String barred : BARRED) {
            due.is("barred: " + barred, Pattern.compile(barred).matcher(text).find(), false);
        }
    }

    private void lookUpLibrary() {
        Matcher used = Pattern.compile("\\b(?:[A-Z][a-z]+)\\.[a-z]\\w*").matcher(text);
        while (used.find()) {
            due.is("4: " + used.group(), LIBRARY.contains(used.group()), true);
        }
    }

    private void lookUpSizes() {
        for (Map.Entry<String, List<String>> method : methods.entrySet()) {
            due.is("11: lines of " + method.getKey(), method.getValue().size() <= 60, true);
        }
        due.is("11: classes", Pattern.compile("\\bclass\\b").matcher(text).results().count() <= 12, true);
    }

    private void lookUpDepth() {
        for (String method : methods.keySet()) {
            due.is("11: calls deep from " + method, depthOf(method, 0) <= 8, true);
        }
    }

    /** How many calls stand open at most once a method is called; more than 20 if it leads back to itself. */
    private int depthOf(String method, int open) {
        int most = 0;
        if (open > 20) {
            return 1;
        }
        for (String line : methods.get(method)) {
            Matcher called = Pattern.compile("(\\w+)\\(").matcher(line);
            while (called.find()) {
                if (methods.containsKey(called.group(1))) {
                    most = Math.max(most, depthOf(called.group(1), open + 1));
                }
            }
        }
        return most + 1;
    }

    /** Only what makes an object makes others, so that calls take up no room. */
    private void lookUpNew() {
        for (Map.Entry<String, List<String>> method : methods.entrySet()) {
            boolean makes = String.join("\n", method.getValue()).matches("(?s).*\\b(new|clone|copyOf|copyOfRange)\\b.*");
            boolean constructor = Character.isUpperCase(method.getKey().charAt(0));
            due.is("12: new in " + method.getKey(), makes && !constructor, false);
        }
    }

    private void lookUpFields() {
        List<Class<?>> classes = new ArrayList<>(Arrays.asList(GrowingTiles.class.getDeclaredClasses()));
        classes.add(GrowingTiles.class);
        for (Class<?> one : classes) {
            int own = 0;
            for (Field field : one.getDeclaredFields()) {
                if (Modifier.isStatic(field.getModifiers())) {
                    due.is("5: final " + field, Modifier.isFinal(field.getModifiers()), true);
                } else {
                    own++;
                }
            }
            due.is("11: fields of " + one, own <= 20, true);
        }
    }
}
