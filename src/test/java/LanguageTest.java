import java.io.IOException;
import java.nio.file.Files;
import java.nio.file.Path;
import java.util.HashSet;
import java.util.Set;
import java.util.regex.Matcher;
import java.util.regex.Pattern;

/** Those rules of LANGUAGE.md that can be seen in the text of the class. */
public final class LanguageTest {
    private static final String[] FORBIDDEN = {
        "throw", "throws", "try", "catch", "finally", "synchronized", "assert", "protected", "record", "lambda",
        "volatile", "native", "transient", "var", "Object", "Exception", "HashMap", "Map", "Set", "Random",
        "Thread", "hashCode", "toString", "equals", "package", "Optional", "stream", "Scanner"};

    public static void main(String[] args) throws IOException {
        Path file = Path.of(System.getProperty("project", "."), "src/main/java/StonesAsked.java");
        String source = Files.readString(file);
        String code = source.replaceAll("(?s)/\\*.*?\\*/", "").replaceAll("//[^\n]*", "");
        words(code);
        signs(source);
        imports(code);
        library(code);
        methodLengths(source);
        Check.end();
    }

    private static void words(String code) {
        for (String word : FORBIDDEN) {
            Check.holds("no word " + word, !Pattern.compile("\\b" + word + "\\b").matcher(code).find());
        }
        Check.holds("no lambda and no method reference", !code.contains("->") && !code.contains("::"));
        Check.holds("no annotation", !code.contains("@"));
        Check.holds("none of those whose name ends in Exact", !code.contains("Exact("));
        Check.holds("no static block", !Pattern.compile("static\\s*\\{").matcher(code).find());
        Check.holds("no text", !code.contains("\""));
    }

    private static void signs(String source) {
        for (int i = 0; i < source.length(); i++) {
            char sign = source.charAt(i);
            if (sign != '\n' && (sign < 32 || sign > 126)) {
                Check.due("sign at " + i, sign, ' ');
            }
        }
    }

    private static void imports(String code) {
        Matcher found = Pattern.compile("import [^;]*;").matcher(code);
        while (found.find()) {
            Check.holds(found.group(), found.group().equals("import java.util.Arrays;"));
        }
    }

    /** Rule 4: of the library just what it lists; made is nothing but own classes and rows (rules 3 and 12). */
    private static void library(String code) {
        Set<String> listed = Set.of("Math.max", "Math.min", "Integer.bitCount", "Arrays.fill", "System.arraycopy");
        Set<String> own = new HashSet<>();
        Matcher classes = Pattern.compile("\\bclass (\\w+)").matcher(code);
        while (classes.find()) {
            own.add(classes.group(1));
        }
        Matcher named = Pattern.compile("\\b([A-Z]\\w*[a-z]\\w*)\\.(\\w+)").matcher(code);
        while (named.find()) {
            Check.holds("listed: " + named.group(), listed.contains(named.group()));
        }
        Matcher made = Pattern.compile("\\bnew (\\w+)([\\[(])").matcher(code);
        int found = 0;
        while (made.find()) {
            found++;
            boolean isNumbers = made.group(1).equals("int") || made.group(1).equals("long");
            Check.holds("made: " + made.group(), own.contains(made.group(1)) || isNumbers && made.group(2).equals("["));
        }
        Check.holds("some are made", found > 20);
        Check.holds("some twelve classes", own.size() <= 12);
    }

    /** A method ends where the brace of its own depth is closed. */
    private static void methodLengths(String source) {
        String[] lines = source.split("\n");
        Pattern head = Pattern.compile("^(    |        )(?:public |private |static |final )*[A-Za-z\\[\\]]+ ?\\w*\\(.*\\{$");
        int methods = 0;
        for (int i = 0; i < lines.length; i++) {
            Matcher m = head.matcher(lines[i]);
            if (!m.find()) {
                continue;
            }
            int end = i;
            while (!lines[end].equals(m.group(1) + "}")) {
                end++;
            }
            methods++;
            Check.holds("sixty lines at most: " + lines[i].trim(), end - i < 60);
        }
        Check.holds("methods were found", methods > 100);
    }
}
