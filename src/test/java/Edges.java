import java.io.IOException;
import java.nio.file.Files;
import java.nio.file.Path;
import java.util.ArrayList;
import java.util.List;
import java.util.Set;
import java.util.TreeSet;

/**
 * Runs of calls, each for one sentence of the document that names a boundary. A run does more than
 * try its answers: behind each call that is refused, and each that only asks, all that can be asked
 * must be as in a run without such calls.
 */
final class Edges {
    private static final String[] NAMES = {"BAD", "NOT", "FULL", "NONE", "NULL", "CAST", "INDEX", "SIZE"};
    private static final int[] ANSWERS = {-1, -2, -3, -4, -11, -12, -13, -14};

    private final Check check = new Check();
    private final String document;
    private final Set<String> refusals = new TreeSet<>();

    Edges() {
        document = flat(read(Path.of(System.getProperty("project.root", "."), "../shared/DOC.md")));
    }

    private static String read(Path path) {
        try {
            return Files.readString(path);
        } catch (IOException e) {
            throw new IllegalStateException(e);
        }
    }

    private static String flat(String text) {
        return text.replaceAll("\\s+", " ");
    }

    /** A run for a sentence, or the part of one that names the boundary, in the document's own words. */
    void edge(String sentence, String... runs) {
        check.holds("the document says: " + sentence, document.contains(flat(sentence)));
        for (String run : runs) {
            follow(sentence, Call.list(run));
        }
    }

    /** An answer outside of a run for a sentence. */
    void due(String call, long got, long want) {
        check.due(call, got, want);
    }

    private void follow(String sentence, List<Call> run) {
        ForceFrames x = new ForceFrames();
        List<Call> all = new ArrayList<>();
        List<Call> kept = new ArrayList<>();
        String before = null;
        for (Call call : run) {
            long answer = call.on(x);
            all.add(call);
            if (call.due() != null) {
                check.due("<" + sentence + "> " + all + ": " + call, answer, call.due());
            }
            if (answer < 0) {
                refusals.add(call.name() + " " + answer);
            }
            if (call.mayChange() && answer >= 0) {
                kept.add(call);
                before = null;
                continue;
            }
            if (call.name().equals("read")) {
                loseLetters(kept);
                before = null;
            }
            before = before == null ? Seen.after(kept) : before;
            check.holds("<" + sentence + "> " + all + ": the last call changes nothing", before.equals(Seen.after(all)));
        }
    }

    /** A FAULT leaves all as it was but THE TAPE, which is empty. */
    private static void loseLetters(List<Call> kept) {
        int first = kept.size();
        for (int i = kept.size() - 1; i >= 0 && !kept.get(i).name().equals("read"); i--) {
            if (kept.get(i).name().equals("type")) {
                first = i;
            }
        }
        for (int i = kept.size() - 1; i >= first; i--) {
            if (kept.get(i).name().equals("type")) {
                kept.remove(i);
            }
        }
    }

    /** Each answer below 0 that these promises name has been due in a run. */
    void end(int firstPromise, int lastPromise) {
        for (int promise = firstPromise; promise <= lastPromise; promise++) {
            String head = "## Promise " + promise + ": ";
            int from = document.indexOf(head) + head.length();
            int to = document.indexOf("## ", from);
            check.holds("the document has promise " + promise, from >= head.length() && to > from);
            String text = document.substring(from, to);
            String name = text.substring(0, text.indexOf(' '));
            for (int i = 0; i < NAMES.length; i++) {
                if (text.matches(".*\\b" + NAMES[i] + "\\b.*")) {
                    check.holds(name + " is tried for " + NAMES[i], refusals.contains(name + " " + ANSWERS[i]));
                }
            }
        }
        check.end();
    }
}
