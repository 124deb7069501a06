import java.nio.file.Files;
import java.nio.file.Path;
import java.util.ArrayList;
import java.util.List;
import java.util.regex.Matcher;
import java.util.regex.Pattern;

/** What of ../shared/LANGUAGE.md can be seen in the text of the class. */
public final class RulesTest {
    private static final String[] RULED_OUT = {
        "\\b(throw|throws|try|catch|synchronized|assert|protected|package|instanceof|record|double|float|Thread)\\b",
        "->", "::", "\\w+Exact\\b", "\\b(equals|hashCode|toString)\\s*\\(", "@\\w+", "\\bnew\\s+\\w+\\s*\\([^)]*\\)\\s*\\{",
        "\\bstatic\\s*\\{", "\\bwhile\\s*\\(\\s*true\\s*\\)", "for\\s*\\([^;)]*;\\s*;", "\\bboolean\\s*\\[", "\\bimport\\b(?! java\\.util\\.Arrays;)",
    };
    private static final Pattern LIBRARY = Pattern.compile("\\b(Math|Integer|Long|Arrays|System)\\.(\\w+)");
    private static final List<String> ALLOWED = List.of("Math.max", "Math.min", "Integer.bitCount", "Long.bitCount",
            "Arrays.fill", "System.arraycopy");
    private static final Pattern STATIC_FIELD = Pattern.compile("(?m)^\\s+(?:public |private )?static (?!final )[^(\\n]*[=;]");
    private static final Pattern METHOD = Pattern.compile("(?m)^( +)(?:(?:public|private|static|final) )*[\\w\\[\\]]+ (\\w+)\\(([^)]*)\\) \\{\\n");
    private static final Pattern NESTED = Pattern.compile("(?m)^ {4}private static final class (\\w+) \\{");

    private static int wrong;

    public static void main(String[] args) throws Exception {
        String text = Files.readString(Path.of(args[0]));
        String code = text.replaceAll("(?s)/\\*.*?\\*/", "").replaceAll("//[^\\n]*", "").replaceAll("\"[^\"\\n]*\"", "\"\"");
        for (String pattern : RULED_OUT) {
            Matcher m = Pattern.compile(pattern).matcher(code);
            while (m.find()) {
                say("ruled out: " + m.group());
            }
        }
        Matcher library = LIBRARY.matcher(code);
        while (library.find()) {
            if (!ALLOWED.contains(library.group()) && !library.group().equals("java.util.Arrays")) {
                if (!code.substring(Math.max(0, library.start() - 10), library.start()).endsWith("java.util.")) {
                    say("not of the library's list: " + library.group());
                }
            }
        }
        Matcher fields = STATIC_FIELD.matcher(code);
        while (fields.find()) {
            say("a static field that is not final: " + fields.group().trim());
        }
        methods(code);
        nested(code);
        new Calls(code).look();
        int most = text.chars().max().orElse(0);
        if (most > 126) {
            say("a sign that is not plain: " + most);
        }
        System.exit(wrong == 0 ? 0 : 1);
    }

    private static void methods(String code) {
        List<String> names = new ArrayList<>();
        List<String> publicNames = new ArrayList<>();
        Matcher m = METHOD.matcher(code);
        int found = 0;
        while (m.find()) {
            found++;
            int end = code.indexOf("\n" + m.group(1) + "}", m.end());
            long lines = code.substring(m.start(), end).chars().filter(c -> c == '\n').count();
            if (lines > 60) {
                say("a long method: " + m.group(2));
            }
            if (!m.group(3).isEmpty() && m.group(3).split(",").length > 7) {
                say("many parameters: " + m.group(2));
            }
            (m.group().contains("public ") ? publicNames : names).add(m.group(2));
        }
        if (found < 100) {
            say("too few methods were found to have been looked at: " + found);
        }
        names.retainAll(publicNames);
        for (String name : names) {
            say("bears the name of a public one: " + name);
        }
    }

    private static void nested(String code) {
        Matcher m = NESTED.matcher(code);
        int found = 0;
        while (m.find()) {
            found++;
            String body = code.substring(m.end(), code.indexOf("\n    }", m.end()));
            long own = Pattern.compile("(?m)^ {8}(?:private )?(?:final )?[\\w\\[\\]]+ \\w+ =").matcher(body).results().count();
            if (own > 20) {
                say("many fields: " + m.group(1));
            }
        }
        if (found < 1 || found > 12) {
            say("classes inside: " + found);
        }
    }

    /** Which method calls which, by names and by how many arguments there are: rather too many calls than too few. */
    private static final class Calls {
        private static final int MOST_DEEP = 8;
        private static final Pattern CALL = Pattern.compile("(?:(\\w+|\\])\\s*(\\.)\\s*|\\bnew\\s+)?\\b(\\w+)\\(");
        private static final List<String> NO_CALLS = List.of("if", "for", "while", "switch", "return");

        private final List<String> owners = new ArrayList<>();
        private final List<String> names = new ArrayList<>();
        private final List<String> heads = new ArrayList<>();
        private final List<Integer> counts = new ArrayList<>();
        private final List<String> bodies = new ArrayList<>();

        Calls(String code) {
            Matcher m = METHOD.matcher(code);
            while (m.find()) {
                owners.add(m.group(1).length() == 4 ? "" : ownerAt(code, m.start()));
                names.add(m.group(2));
                heads.add(m.group());
                counts.add(parts(m.group(3)));
                bodies.add(code.substring(m.end(), code.indexOf("\n" + m.group(1) + "}", m.end())));
            }
        }

        private static String ownerAt(String code, int at) {
            Matcher m = NESTED.matcher(code);
            String owner = "";
            while (m.find() && m.start() < at) {
                owner = m.group(1);
            }
            return owner;
        }

        void look() {
            int deepest = 0;
            for (int i = 0; i < names.size(); i++) {
                if (calledBy(i).contains(i) && !heads.get(i).contains("private static ")) {
                    say("calls itself, but is not private and static: " + names.get(i));
                }
                if (heads.get(i).contains("public ")) {
                    deepest = Math.max(deepest, deep(i, 1, names.get(i)));
                }
            }
            if (deepest < 5) {
                say("too few calls were found to have been looked at: " + deepest + " deep");
            }
        }

        private int deep(int i, int depth, String path) {
            if (depth > MOST_DEEP) {
                say("calls too deep, or methods that call one another: " + path);
                return depth;
            }
            int deepest = depth;
            for (int next : calledBy(i)) {
                if (next != i && wrong < 20) {
                    deepest = Math.max(deepest, next < 0 ? depth + 1 : deep(next, depth + 1, path + " " + names.get(next)));
                }
            }
            if (deepest > MOST_DEEP && depth == MOST_DEEP) {
                say("calls too deep, with the library's: " + path);
            }
            return deepest;
        }

        /** The numbers of the methods that one may call; -1 for one of the library. */
        private List<Integer> calledBy(int i) {
            List<Integer> called = new ArrayList<>();
            Matcher m = CALL.matcher(bodies.get(i));
            while (m.find()) {
                if (NO_CALLS.contains(m.group(3)) || m.group().startsWith("new")) {
                    continue;
                }
                int count = parts(argumentsAt(bodies.get(i), m.end()));
                List<Integer> own = matching(m.group(3), count, owners.get(i), m.group(2) != null);
                boolean isLibrary = m.group(1) != null && LIBRARY.matcher(m.group()).find();
                called.addAll(isLibrary || own.isEmpty() ? List.of(-1) : own);
            }
            return called;
        }

        private List<Integer> matching(String name, int count, String owner, boolean ofSomething) {
            List<Integer> inSame = new ArrayList<>();
            List<Integer> inOthers = new ArrayList<>();
            for (int i = 0; i < names.size(); i++) {
                if (names.get(i).equals(name) && counts.get(i) == count) {
                    (owners.get(i).equals(owner) ? inSame : inOthers).add(i);
                }
            }
            if (ofSomething) {
                inOthers.addAll(inSame);
                return inOthers;
            }
            return inSame.isEmpty() ? inOthers : inSame;
        }

        private static String argumentsAt(String body, int from) {
            int open = 1;
            int to = from;
            while (to < body.length() && open > 0) {
                open += body.charAt(to) == '(' ? 1 : body.charAt(to) == ')' ? -1 : 0;
                to++;
            }
            return body.substring(from, to - 1);
        }

        private static int parts(String list) {
            if (list.isBlank()) {
                return 0;
            }
            int open = 0;
            int parts = 1;
            for (char c : list.toCharArray()) {
                open += c == '(' || c == '[' ? 1 : c == ')' || c == ']' ? -1 : 0;
                parts += c == ',' && open == 0 ? 1 : 0;
            }
            return parts;
        }
    }

    private static void say(String what) {
        wrong++;
        System.out.println(what);
    }
}
