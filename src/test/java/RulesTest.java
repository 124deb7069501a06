import java.nio.file.Files;
import java.nio.file.Path;
import java.util.ArrayList;
import java.util.List;
import java.util.regex.Matcher;
import java.util.regex.Pattern;

/** What of ../shared/LANGUAGE.md can be seen in the text of the class. */
public final class RulesTest {
    private static final String[] RULED_OUT = {
        "\\b(throw|throws|try|catch|synchronized|assert|protected|package|instanceof|record|double|float|Thread)\\b",
        "->", "::", "\\w+Exact\\b", "\\b(equals|hashCode|toString)\\s*\\(", "@\\w+", "\\bnew\\s+\\w+\\s*\\([^)]*\\)\\s*\\{",
        "\\bstatic\\s*\\{", "\\bwhile\\s*\\(\\s*true\\s*\\)", "for\\s*\\([^;)]*;\\s*;", "\\bboolean\\s*\\[", "\\bimport\\b(?! java\\.util\\.Arrays;)",
    };
    private static final Pattern LIBRARY = Pattern.compile("\\b(Math|Integer|Long|Arrays|System)\\.(\\w+)");
    private static final List<String> ALLOWED = List.of("Math.max", "Math.min", "Integer.bitCount", "Long.bitCount",
            "Arrays.fill", "System.arraycopy");
    private static final Pattern STATIC_FIELD = Pattern.compile("(?m)^\\s+(?:public |private )?static (?!final )[^(\\n]*[=;]");
    private static final Pattern METHOD = Pattern.compile("(?m)^( +)(?:(?:public|private|static|final) )*[\\w\\[\\]]+ (\\w+)\\(([^)]*)\\) \\{\\n");
    private static final Pattern NESTED = Pattern.compile("(?m)^ {4}private static final class (\\w+) \\{");

    private static int wrong;

    public static void main(String[] args) throws Exception {
        String text = Files.readString(Path.of(args[0]));
        String code = text.replaceAll("(?s)/\\*.*?\\*/", "").replaceAll("//[^\\n]*", "").replaceAll("\"[^\"\\n]*\"", "\"\"");
        for (String pattern : RULED_OUT) {
            Matcher m = Pattern.compile(pattern).matcher(code);
            while (m.find()) {
                say("ruled out: " + m.group());
            }
        }
        Matcher library = LIBRARY.matcher(code);
        while (library.find()) {
            if (!ALLOWED.contains(library.group()) && !library.group().equals("java.util.Arrays")) {
                if (!code.substring(Math.max(0, library.start() - 10), library.start()).endsWith("java.util.")) {
                    say("not of the library's list: " + library.group());
                }
            }
        }
        Matcher fields = STATIC_FIELD.matcher(code);
        while (fields.find()) {
            say("a static field that is not final: " + fields.group().trim());
        }
        methods(code);
        nested(code);
        int most = text.chars().max().orElse(0);
        if (most > 126) {
            say("a sign that is not plain: " + most);
        }
        System.exit(wrong == 0 ? 0 : 1);
    }

    private static void methods(String code) {
        List<String> names = new ArrayList<>();
        List<String> publicNames = new ArrayList<>();
        Matcher m = METHOD.matcher(code);
        int found = 0;
        while (m.find()) {
            found++;
            int end = code.indexOf("\n" + m.group(1) + "}", m.end());
            long lines = code.substring(m.start(), end).chars().filter(c -> c == '\n').count();
            if (lines > 60) {
                say("a long method: " + m.group(2));
            }
            if (!m.group(3).isEmpty() && m.group(3).split(",").length > 7) {
                say("many parameters: " + m.group(2));
            }
            (m.group().contains("public ") ? publicNames : names).add(m.group(2));
        }
        if (found < 100) {
            say("too few methods were found to have been looked at: " + found);
        }
        names.retainAll(publicNames);
        for (String name : names) {
            say("bears the name of a public one: " + name);
        }
    }

    private static void nested(String code) {
        Matcher m = NESTED.matcher(code);
        int found = 0;
        while (m.find()) {
            found++;
            String body = code.substring(m.end(), code.indexOf("\n    }", m.end()));
            long own = Pattern.compile("(?m)^ {8}(?:private )?(?:final )?[\\w\\[\\]]+ \\w+ =").matcher(body).results().count();
            if (own > 20) {
                say("many fields: " + m.group(1));
            }
        }
        if (found < 1 || found > 12) {
            say("classes inside: " + found);
        }
    }

    private static void say(String what) {
        wrong++;
        System.out.println(what);
    }
}
