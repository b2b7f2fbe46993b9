import java.io.IOException;
import java.nio.file.Files;
import java.nio.file.Path;
import java.util.Set;
import java.util.regex.Matcher;
import java.util.regex.Pattern;

/** The class's text keeps to what LANGUAGE.md leaves, as far as its words tell (rules 2, 4, 6, 11, 12). */
public final class LineCasterLanguage extends Checks {
    // what the class uses of what rule 4 leaves: add to it what rule 4 names, and nothing else
    private static final Set<String> LIBRARY = Set.of("Integer.bitCount", "Math.max", "System.arraycopy");
    private static final String[] NOT_USED = {
        "import", "package", "try", "catch", "finally", "throw", "throws", "synchronized", "assert", "native",
        "volatile", "transient", "strictfp", "double", "float", "goto", "yield", "var", "instanceof"};
    private static final int MOST_CLASSES = 12;
    private static final int LONGEST_METHOD = 60;
    private static final int MOST_PARAMETERS = 7;

    public static void main(String[] args) throws IOException {
        under("LANGUAGE.md");
        String text = withoutComments(Files.readString(Path.of("src/main/java/LineCaster.java")));
        checkWords(text);
        checkLibrary(text);
        checkSizes(text);
        checkObjects(text);
        end("the class keeps to the language");
    }

    private static String withoutComments(String text) {
        return text.replaceAll("(?s)/\\*.*?\\*/", "").replaceAll("//[^\\n]*", "");
    }

    private static void checkWords(String text) {
        for (String word : NOT_USED) due("the word " + word, 0, count(text, "\\b" + word + "\\b"));
        due("lambdas, method references, annotations", 0, count(text, "->|::|@"));
        due("signs above 126", 0, count(text, "[^\\n -~]"));
        due("static blocks", 0, count(text, "\\bstatic\\s*\\{"));
    }

    /** Whatever stands behind a name with a capital first is a class: ours have no static members to ask. */
    private static void checkLibrary(String text) {
        Matcher m = Pattern.compile("\\b[A-Z][a-z]\\w*\\.\\w+").matcher(text);
        while (m.find()) due("the library's " + m.group(), 1, LIBRARY.contains(m.group()) ? 1 : 0);
    }

    private static void checkSizes(String text) {
        int classes = count(text, "\\bclass [A-Z]");
        due(classes + " classes are few", 1, classes <= MOST_CLASSES ? 1 : 0);
        int from = -1;
        String[] lines = text.split("\n");
        for (int i = 0; i < lines.length; i++) {
            if (lines[i].matches(" {4}( {4})?\\w[^=;]*\\([^=;]*\\) \\{")) {
                from = i;
                due("few parameters: " + lines[i], 1, count(lines[i], ",") < MOST_PARAMETERS ? 1 : 0);
            }
            if (from >= 0 && lines[i].matches(" {4}( {4})?\\}")) {
                due("a short method: " + lines[from], 1, i - from < LONGEST_METHOD ? 1 : 0);
                from = -1;
            }
        }
    }

    /** Objects and rows are made in fields and in constructors alone, so no run of calls fills the room. */
    private static void checkObjects(String text) {
        Matcher m = Pattern.compile("(?m)^( *)(.*)\\bnew\\b").matcher(text);
        while (m.find()) {
            boolean inField = m.group(2).matches("(private )?final [\\w\\[\\]]+ \\w+ = ");
            boolean inConstructor = m.group(2).equals("sheets[s] = ");
            due("new behind: " + m.group(2), 1, inField || inConstructor ? 1 : 0);
        }
    }

    private static int count(String text, String pattern) {
        Matcher m = Pattern.compile(pattern).matcher(text);
        int found = 0;
        while (m.find()) found++;
        return found;
    }
}
