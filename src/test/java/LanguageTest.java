import java.io.IOException;
import java.lang.reflect.Field;
import java.lang.reflect.Modifier;
import java.nio.file.Files;
import java.nio.file.Path;
import java.util.ArrayList;
import java.util.List;
import java.util.Set;
import java.util.regex.Matcher;
import java.util.regex.Pattern;

/** What of LANGUAGE.md can be seen from the source (its path is the argument): its letters, and what calls what. */
public final class LanguageTest {
    private static final String[] NEVER = {
        "\\bthrow\\b", "\\btry\\b", "\\bcatch\\b", "\\bsynchronized\\b", "\\bassert\\b", "\\bimport\\b",
        "\\bpackage\\b", "->", "::", "Exact\\b", "static\\s*\\{", "\\bprotected\\b", "\\bwhile\\b", "\\bString\\b",
        "\\bdouble\\b", "\\bfloat\\b", "\\bnull\\b", "\\bSystem\\.(?!arraycopy)", "\\bhashCode\\b", "\\btoString\\b",
        "\\bvolatile\\b", "\\bnative\\b", "(?<!final )\\bclass\\b", "[^\\x00-\\x7f]", "\\t",
    };
    private static final int MOST_LINES = 60;
    private static final int MOST_PARAMETERS = 7;
    private static final int MOST_CLASSES = 12;
    private static final int MOST_FIELDS = 20;
    private static final int DEEPEST_CALL = 8;
    // The reading of conditions carries its depth along.
    private static final Set<String> MAY_RECUR =
            Set.of("LawReader.readCondition", "LawReader.readPart", "LawReader.readPiece");

    public static void main(String[] args) throws IOException {
        Check check = new Check("LanguageTest");
        String source = Files.readString(Path.of(args[0]));
        String code = source.replaceAll("(?s)/\\*.*?\\*/", "").replaceAll("//[^\n]*", "");
        for (String never : NEVER) {
            Matcher found = Pattern.compile(never).matcher(code);
            check.is(never + " stands in the source", !found.find());
        }
        check.is("at most some twelve classes", code.split("\\bclass\\b").length - 1 <= MOST_CLASSES);
        Matcher fields = Pattern.compile("\n {4,8}(?:[a-z]+ )*static (?!final )[^(\n]*;").matcher(code);
        check.is("static fields are final", !fields.find());
        methods(check, source);
        chains(check, new CallChains(Path.of(args[0])));
        fields(check);
        check.end();
    }

    private static void chains(Check check, CallChains calls) {
        check.is("the calls were read", calls.methods().size() > 100);
        for (String method : calls.methods()) {
            List<String> row = calls.longest(method);
            check.is("calls go at most " + DEEPEST_CALL + " deep: " + row, row.size() <= DEEPEST_CALL);
            check.is(method + " doesn't call itself", !calls.callsItself(method));
        }
        check.is("recursive are " + calls.recursive(), MAY_RECUR.containsAll(calls.recursive()));
    }

    private static void fields(Check check) {
        List<Class<?>> classes = new ArrayList<>(List.of(SealBook.class.getDeclaredClasses()));
        classes.add(SealBook.class);
        for (Class<?> one : classes) {
            int count = 0;
            for (Field field : one.getDeclaredFields()) {
                count += Modifier.isStatic(field.getModifiers()) ? 0 : 1;
            }
            check.is(one + " has few fields", count <= MOST_FIELDS);
        }
    }

    private static void methods(Check check, String source) {
        Matcher head = Pattern.compile("\n( +)(?:[A-Za-z\\[\\]]+ )+(\\w+)\\(([^()]*)\\) \\{\n").matcher(source);
        while (head.find()) {
            if (head.group(0).contains("else if")) {
                continue;
            }
            String body = source.substring(head.end(), source.indexOf("\n" + head.group(1) + "}\n", head.end() - 1) + 1);
            check.is(head.group(2) + " is short", body.lines().count() <= MOST_LINES);
            check.is(head.group(2) + " takes few", head.group(3).split(",").length <= MOST_PARAMETERS);
            // What is made is made once for each object: in the constructor and the fields.
            check.is(head.group(2) + " makes nothing", !body.contains("new "));
        }
    }
}
