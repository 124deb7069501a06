import java.io.IOException;
import java.lang.reflect.Method;
import java.lang.reflect.Modifier;
import java.nio.file.Files;
import java.nio.file.Path;
import java.util.ArrayList;
import java.util.Comparator;
import java.util.List;
import java.util.Set;
import java.util.TreeSet;
import java.util.regex.Matcher;
import java.util.regex.Pattern;
import java.util.stream.Stream;

/** What README.md says is so: its example, its commands, the calls and the tests that it names. */
public final class ReadmeTest {
    private static final Path TESTS = Path.of("src/test/java");
    private static final String WHOLE_RUN = ".ci/run";
    /** A file that holds tests, told by its name. */
    private static final String OF_TESTS = "\\w+Test|EdgesOf\\w+";

    private static int wrong;

    public static void main(String[] args) throws Exception {
        String page = Files.readString(Path.of("README.md"));
        commands(page);
        calls(page);
        statuses(page);
        tests(page);
        System.exit(wrong == 0 ? 0 : 1);
    }

    // ---- the example and the commands

    private static void commands(String page) throws Exception {
        List<String> examples = blocks(page, "java");
        List<String> outputs = blocks(page, "text");
        if (examples.size() != 1 || outputs.size() != 1) {
            say("there is not just one example with its output");
            return;
        }
        // In a copy, so that nothing is left in the checkout, and nothing that lies there can help.
        Path copy = Files.createTempDirectory("readme");
        try {
            copyTree(Path.of("src"), copy.resolve("src"));
            Files.writeString(copy.resolve("Example.java"), examples.get(0));
            String printed = "";
            for (String command : blocks(page, "sh")) {
                if (command.trim().equals(WHOLE_RUN)) {
                    due("whether " + WHOLE_RUN + " can be run", Files.isExecutable(Path.of(WHOLE_RUN)), true);
                } else {
                    String output = run(command, copy);
                    printed = command.contains("Example") ? output : printed;
                }
            }
            due("what the example prints", printed, outputs.get(0));
            due("whether the whole run is told", blocks(page, "sh").contains(WHOLE_RUN + "\n"), true);
        } finally {
            removeTree(copy);
        }
    }

    private static List<String> blocks(String page, String sort) {
        List<String> found = new ArrayList<>();
        Matcher m = Pattern.compile("(?ms)^```" + sort + "\\n(.*?)^```$").matcher(page);
        while (m.find()) {
            found.add(m.group(1));
        }
        return found;
    }

    private static String run(String command, Path where) throws Exception {
        Process process = new ProcessBuilder("bash", "-ec", command).directory(where.toFile())
                .redirectErrorStream(true).start();
        String output = new String(process.getInputStream().readAllBytes());
        if (process.waitFor() != 0) {
            say("this command fails:\n" + command + output);
        }
        return output;
    }

    private static void copyTree(Path from, Path to) throws IOException {
        for (Path one : tree(from)) {
            Path target = to.resolve(from.relativize(one).toString());
            if (Files.isDirectory(one)) {
                Files.createDirectories(target);
            } else {
                Files.copy(one, target);
            }
        }
    }

    private static void removeTree(Path root) throws IOException {
        List<Path> all = tree(root);
        all.sort(Comparator.reverseOrder());
        for (Path one : all) {
            Files.delete(one);
        }
    }

    private static List<Path> tree(Path root) throws IOException {
        try (Stream<Path> all = Files.walk(root)) {
            return new ArrayList<>(all.toList());
        }
    }

    // ---- what is named

    private static void calls(String page) {
        Set<String> named = new TreeSet<>();
        Matcher m = Pattern.compile("`(\\w+)\\(([^)]*)\\)`").matcher(section(page, "### The calls"));
        while (m.find()) {
            int count = m.group(2).isEmpty() ? 0 : m.group(2).split(",").length;
            if (!named.add(m.group(1) + " of " + count)) {
                say("a call is named twice: " + m.group());
            }
        }
        Set<String> there = new TreeSet<>();
        for (Method method : ResidueCover.class.getDeclaredMethods()) {
            if (Modifier.isPublic(method.getModifiers())) {
                there.add(method.getName() + " of " + method.getParameterCount());
            }
        }
        due("the calls", named, there);
    }

    private static void statuses(String page) {
        List<String> told = new ArrayList<>();
        Matcher m = Pattern.compile("(?m)^\\| (\\d) \\|").matcher(section(page, "### What to know of all calls"));
        while (m.find()) {
            told.add(m.group(1));
        }
        due("each STATUS", told, List.of("0", "1", "2", "3", "4", "5", "6", "7", "8", "9"));
    }

    private static void tests(String page) throws IOException {
        Set<String> named = new TreeSet<>();
        Matcher m = Pattern.compile("`(" + OF_TESTS + ")`").matcher(page);
        while (m.find()) {
            named.add(m.group(1));
        }
        Set<String> there = new TreeSet<>();
        for (Path file : tree(TESTS)) {
            String name = file.getFileName().toString().replace(".java", "");
            if (name.matches(OF_TESTS)) {
                there.add(name);
            } else if (!Files.isDirectory(file) && !page.contains("`" + name + "`")) {
                say("README.md does not name " + name);
            }
        }
        due("the tests", named, there);
    }

    private static String section(String page, String heading) {
        int from = page.indexOf("\n" + heading + "\n");
        if (from < 0) {
            say("there is no heading: " + heading);
            return "";
        }
        Matcher next = Pattern.compile("(?m)^##").matcher(page);
        return page.substring(from, next.find(from + 1 + heading.length()) ? next.start() : page.length());
    }

    private static void due(String what, Object told, Object so) {
        if (!told.equals(so)) {
            say("README.md, " + what + ":\n" + told + "\nis not\n" + so);
        }
    }

    private static void say(String what) {
        wrong++;
        System.out.println(what);
    }
}
