import java.io.IOException;
import java.nio.file.Files;
import java.nio.file.Path;
import java.util.regex.Matcher;
import java.util.regex.Pattern;

/** What of LANGUAGE.md can be seen from the letters of the source (its path is the argument). */
public final class LanguageTest {
    private static final String[] NEVER = {
        "\\bthrow\\b", "\\btry\\b", "\\bcatch\\b", "\\bsynchronized\\b", "\\bassert\\b", "\\bimport\\b",
        "\\bpackage\\b", "->", "::", "Exact\\b", "static\\s*\\{", "\\bprotected\\b", "\\bwhile\\b", "\\bString\\b",
        "\\bdouble\\b", "\\bfloat\\b", "\\bnull\\b", "\\bSystem\\.(?!arraycopy)", "\\bhashCode\\b", "\\btoString\\b",
        "\\bvolatile\\b", "\\bnative\\b", "(?<!final )\\bclass\\b", "[^\\x00-\\x7f]", "\\t",
    };
    private static final int MOST_LINES = 60;
    private static final int MOST_PARAMETERS = 7;
    private static final int MOST_CLASSES = 12;

    public static void main(String[] args) throws IOException {
        Check check = new Check("LanguageTest");
        String source = Files.readString(Path.of(args[0]));
        String code = source.replaceAll("(?s)/\\*.*?\\*/", "").replaceAll("//[^\n]*", "");
        for (String never : NEVER) {
            Matcher found = Pattern.compile(never).matcher(code);
            check.is(never + " stands in the source", !found.find());
        }
        check.is("at most some twelve classes", code.split("\\bclass\\b").length - 1 <= MOST_CLASSES);
        Matcher fields = Pattern.compile("\n {4,8}(?:[a-z]+ )*static (?!final )[^(\n]*;").matcher(code);
        check.is("static fields are final", !fields.find());
        methods(check, source);
        check.end();
    }

    private static void methods(Check check, String source) {
        Matcher head = Pattern.compile("\n( +)(?:[A-Za-z\\[\\]]+ )+(\\w+)\\(([^()]*)\\) \\{\n").matcher(source);
        while (head.find()) {
            if (head.group(0).contains("else if")) {
                continue;
            }
            String body = source.substring(head.end(), source.indexOf("\n" + head.group(1) + "}\n", head.end() - 1) + 1);
            check.is(head.group(2) + " is short", body.lines().count() <= MOST_LINES);
            check.is(head.group(2) + " takes few", head.group(3).split(",").length <= MOST_PARAMETERS);
            // What is made is made once for each object: in the constructor and the fields.
            check.is(head.group(2) + " makes nothing", !body.contains("new "));
        }
    }
}
