import java.io.IOException;
import java.nio.file.Files;
import java.nio.file.Path;
import java.util.BitSet;

/**
 * Runs the tests of the document's edges, each of which quotes the words that it belongs to. Then it looks whether the
 * quotes are the document's, and whether the terms and the promises are quoted to the last word.
 */
public final class EdgesTest {
    private static final Path DOCUMENT = Path.of("../shared/DOC.md");

    public static void main(String[] args) throws IOException {
        Bench[] all = {new EdgesOfTrays(), new EdgesOfTexts(), new EdgesOfDaysTexts(), new EdgesOfChanges(),
            new EdgesOfCatching(), new EdgesOfPlay(), new EdgesOfLives(), new EdgesOfStatus()};
        for (Bench one : all) {
            one.run();
        }
        if (Files.isReadable(DOCUMENT)) {
            quotes(Files.readString(DOCUMENT));
        } else {
            System.out.println("there is no " + DOCUMENT + " to hold the quotes against");
        }
        System.exit(Bench.wrong == 0 ? 0 : 1);
    }

    private static void quotes(String document) {
        String text = document.replace("```text", "").replace("```", "").replaceAll("\\s+", " ");
        BitSet quoted = new BitSet();
        for (int i = 0; i < Bench.QUOTES.size(); i++) {
            mark(text, Bench.QUOTES.get(i).replaceAll("\\s+", " "), Bench.PROMISES.get(i), quoted);
        }
        int from = text.indexOf("## Terms");
        int to = text.indexOf("## Not promised");
        for (int at = from; at < to; at = quoted.nextSetBit(at)) {
            int end = quoted.nextClearBit(at);
            if (end > at) {
                at = end;
            }
            int next = quoted.nextSetBit(at);
            String left = text.substring(at, next < 0 || next > to ? to : next);
            if (!isHeading(left)) {
                say("no test quotes: " + left);
            }
            if (next < 0) {
                return;
            }
        }
    }

    private static void mark(String text, String quote, int promise, BitSet quoted) {
        int from = promise == 0 ? 0 : text.indexOf("## Promise " + promise + ":");
        int to = promise == 0 ? text.length() : text.indexOf(" ## ", from);
        int at = text.indexOf(quote, from);
        if (at < 0 || at + quote.length() > to) {
            say("not in the document" + (promise == 0 ? "" : " of promise " + promise) + ": " + quote);
            return;
        }
        quoted.set(at, at + quote.length());
    }

    /** Headings, the face of a call, and what parts sentences name no edge. */
    private static boolean isHeading(String words) {
        String left = words.replaceAll("## Promise \\d+: [\\w ]+`[^`]*`:", "").replaceAll("==== \\d\\.", "")
                .replaceAll("Ahead of the calls [^.]*?the interface says: ---- [^.]*\\.", "").replace("## Terms", "");
        return left.replaceAll("[\\s,;.:]", "").isEmpty();
    }

    private static void say(String what) {
        Bench.wrong++;
        System.out.println(what);
    }
}
