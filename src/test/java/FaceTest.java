import java.lang.reflect.Constructor;
import java.lang.reflect.Field;
import java.lang.reflect.Method;
import java.lang.reflect.Modifier;
import java.nio.file.Files;
import java.nio.file.Path;
import java.util.Set;
import java.util.TreeSet;

/** The class has the document's face and no other member that is not private. */
public final class FaceTest {
    private static final Path DOCUMENT = Path.of("../shared/DOC.md");
    private static final String[] FACE = {
        "int status()", "long top()", "long bottom()", "boolean tray(int,int,int)", "boolean write(int,int,long)",
        "long read(int,int)", "boolean pour(int,int,int,int,int)", "int feed(int,int,int,int,int)", "int system(int)",
        "int days(int)", "int fault(int)", "int told(int)", "int classOf(int,int)", "int caught(int)",
        "int tightest(int)", "int turn(int)", "int add(int,int)", "int drop(int)", "int move(int,int)",
        "boolean shift(int)", "int spread(int)", "int split(int,int)", "int join(int,int)", "boolean rule(int)",
        "int gapAt(int)", "boolean gaps()", "boolean weight()", "boolean alone(int)", "int needless()",
        "int fewest()", "int fewestSet()", "int meet(int,int)", "int thick()", "int ask()", "int turnsBy()",
        "int tree(int)", "int leafOf(int)", "int choices(int,int,int)", "int choiceAt(int,int,int,int)",
        "int game(int)", "int moveOf(int)", "boolean uncaught(int,int)", "int copySystem(int)", "int live(int)",
        "int lived(int)", "boolean mean(int,int)", "int mark()", "int undo()",
    };

    public static void main(String[] args) throws Exception {
        Set<String> wanted = new TreeSet<>(Set.of(FACE));
        Set<String> publicNames = new TreeSet<>();
        for (String line : FACE) {
            publicNames.add(line.substring(line.indexOf(' ') + 1, line.indexOf('(')));
        }
        int wrong = Files.isReadable(DOCUMENT) ? heldAgainst(Files.readString(DOCUMENT)) : 0;
        Class<?> face = ResidueCover.class;
        if (!Modifier.isPublic(face.getModifiers()) || !Modifier.isFinal(face.getModifiers())) {
            wrong += say("the class is not public and final");
        }
        Constructor<?>[] makers = face.getDeclaredConstructors();
        if (makers.length != 1 || makers[0].getParameterCount() != 0 || !Modifier.isPublic(makers[0].getModifiers())) {
            wrong += say("there is not just the one public constructor");
        }
        for (Method m : face.getDeclaredMethods()) {
            if (Modifier.isPrivate(m.getModifiers()) || m.isSynthetic()) {
                if (publicNames.contains(m.getName())) {
                    wrong += say("a private method bears a public name: " + m.getName());
                }
            } else if (!wanted.remove(lineOf(m))) {
                wrong += say("not of the face: " + lineOf(m));
            }
        }
        for (String line : wanted) {
            wrong += say("lacks: " + line);
        }
        for (Field f : face.getDeclaredFields()) {
            if (!Modifier.isPrivate(f.getModifiers()) && !f.getName().equals("NONE")) {
                wrong += say("a field that is not private: " + f.getName());
            }
        }
        if (ResidueCover.NONE != -1) {
            wrong += say("NONE is not -1");
        }
        System.exit(wrong == 0 ? 0 : 1);
    }

    /** The face as it is written here is the document's, in its order. */
    private static int heldAgainst(String document) {
        int from = document.indexOf("```java") + 7;
        String[] lines = document.substring(from, document.indexOf("```", from)).trim().split("\\n");
        String[] rest = {"public final class ResidueCover {", "public static final int NONE = -1;", "public ResidueCover();"};
        int wrong = 0;
        for (int i = 0; i < lines.length - 1; i++) {
            String line = lines[i].trim();
            String plain = line.replaceAll(" \\w+(?=[,)])", "").replace(", ", ",").replace("public ", "").replace(";", "");
            boolean isSo = i < rest.length ? line.equals(rest[i]) : i - rest.length < FACE.length && plain.equals(FACE[i - rest.length]);
            wrong += isSo ? 0 : say("the document's face has: " + line);
        }
        return wrong + (lines.length - 1 == rest.length + FACE.length ? 0 : say("the document's face has more or fewer calls"));
    }

    private static String lineOf(Method m) {
        StringBuilder line = new StringBuilder(m.getReturnType().getName()).append(' ').append(m.getName()).append('(');
        for (int i = 0; i < m.getParameterCount(); i++) {
            line.append(i == 0 ? "" : ",").append(m.getParameterTypes()[i].getName());
        }
        return line.append(')').toString();
    }

    private static int say(String what) {
        System.out.println(what);
        return 1;
    }
}
