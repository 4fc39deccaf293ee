import java.lang.reflect.Method;
import java.nio.file.Files;
import java.nio.file.Path;
import java.util.regex.Matcher;
import java.util.regex.Pattern;

/**
 * No sentence of the document, from its terms to what is not promised, may stand without a test that says its
 * words; and every promise has one that says words of its own section.
 */
public final class DocumentTest {
    private static final Check check = new Check("DocumentTest");
    private static final Class<?>[] TESTS = {EdgesOfTheBoardTest.class, EdgesOfTheTextTest.class, EdgesOfThrowsTest.class,
        EdgesOfWhereTest.class, EdgesOfKindsTest.class, EdgesOfTheRestTest.class};
    private static final char SAID = '\1';

    public static void main(String[] args) throws Exception {
        String document = Files.readString(Path.of(System.getProperty("document", "../shared/DOC.md"))).replace("`", "");
        int begin = document.indexOf("## Terms");
        int end = document.indexOf("## Not promised");
        check.holds("the document has terms, and an end", begin > 0 && end > begin);
        if (begin > 0 && end > begin) {
            String terms = document.substring(begin, end);
            everyWordIsSaid(terms);
            everyPromiseIsSaid(terms);
        }
        check.end();
    }

    private static void everyWordIsSaid(String terms) {
        StringBuilder left = new StringBuilder(terms);
        for (Class<?> tests : TESTS) {
            for (Method test : tests.getDeclaredMethods()) {
                Says says = test.getAnnotation(Says.class);
                for (String words : says == null ? new String[0] : says.value()) {
                    blot(terms, words, left);
                }
            }
        }
        String[] rows = left.toString().split("\n");
        check.holds("the terms have rows", rows.length > 100);
        for (String row : rows) {
            String unsaid = withoutFrame(row).replace(SAID, ' ').strip();
            check.holds("no test says: " + unsaid, !Pattern.compile("[A-Za-z0-9]").matcher(unsaid).find());
        }
    }

    private static void blot(String terms, String words, StringBuilder left) {
        for (int at = terms.indexOf(words); at >= 0; at = terms.indexOf(words, at + 1)) {
            for (int n = at; n < at + words.length(); n++) {
                left.setCharAt(n, left.charAt(n) == '\n' ? '\n' : SAID);
            }
        }
    }

    /** A row without what promises nothing: headings, fences, where the interface is parted, the call's own line. */
    private static String withoutFrame(String row) {
        if (row.startsWith("## ") || row.equals("text") || row.startsWith("Ahead of the calls ")) {
            return "";
        }
        return row.replaceFirst("^(int |long )?\\w+\\([a-z, ]*\\): ", "").replaceFirst("^======== 2 ", "");
    }

    /** A test named promiseNN_.. must say words that stand in the section of promise NN. */
    private static void everyPromiseIsSaid(String terms) {
        Matcher section = Pattern.compile("(?s)## Promise ([0-9]+): [^\n]*\n(.*?)(?=## Promise|$)").matcher(terms);
        int promises = 0;
        while (section.find()) {
            promises++;
            String name = String.format("promise%02d_", Integer.parseInt(section.group(1)));
            check.holds(name + " has a test that says its words", isSaid(name, section.group(2)));
        }
        check.due("promises", promises, 36);
    }

    private static boolean isSaid(String name, String section) {
        for (Class<?> tests : TESTS) {
            for (Method test : tests.getDeclaredMethods()) {
                Says says = test.getAnnotation(Says.class);
                if (!test.getName().startsWith(name) || says == null) {
                    continue;
                }
                for (String words : says.value()) {
                    if (section.contains(words)) {
                        return true;
                    }
                }
            }
        }
        return false;
    }
}
