import java.util.ArrayList;
import java.util.List;
import java.util.Set;

/** One call told as a text, such as "joint 5 5 = 0"; due is null where any answer will do. */
record Call(String name, long[] numbers, Long due) {
    /** The calls that may change what can be asked later on, if they are not refused. */
    private static final Set<String> CHANGING = Set.of(
        "joint", "move", "lose", "bar", "out", "weight", "type", "read", "drift", "undo", "seed", "image", "restore",
        "film", "sheet", "drop", "item", "copy");

    /**
     * Calls with | or a new line between. "tell <00,50;01> = 1" is all its letters and a read.
     */
    static List<Call> list(String text) {
        List<Call> calls = new ArrayList<>();
        for (String one : text.split("[|\n]")) {
            if (!one.isBlank()) {
                add(calls, one.strip());
            }
        }
        return calls;
    }

    private static void add(List<Call> calls, String one) {
        int cut = one.lastIndexOf(" = ");
        String call = cut < 0 ? one : one.substring(0, cut);
        Long due = cut < 0 ? null : Long.valueOf(one.substring(cut + 3).strip());
        if (call.startsWith("tell <")) {
            for (char letter : call.substring(6, call.lastIndexOf('>')).toCharArray()) {
                calls.add(new Call("type", new long[] {letter}, null));
            }
            calls.add(new Call("read", new long[0], due));
            return;
        }
        String[] words = call.strip().split(" +");
        long[] numbers = new long[words.length - 1];
        for (int i = 0; i < numbers.length; i++) {
            numbers[i] = number(words[i + 1]);
        }
        calls.add(new Call(words[0], numbers, due));
    }

    private static long number(String word) {
        switch (word) {
            case "MIN": return Integer.MIN_VALUE;
            case "MAX": return Integer.MAX_VALUE;
            case "LMIN": return Long.MIN_VALUE;
            case "LMAX": return Long.MAX_VALUE;
            default: return Long.parseLong(word);
        }
    }

    boolean mayChange() {
        return CHANGING.contains(name);
    }

    long on(ForceFrames x) {
        return answer(x, name, numbers);
    }

    @Override
    public String toString() {
        StringBuilder text = new StringBuilder(name);
        for (long number : numbers) {
            text.append(' ').append(number);
        }
        return text.toString();
    }

    static long answer(ForceFrames x, String name, long... n) {
        int a = n.length > 0 ? (int) n[0] : 0;
        int b = n.length > 1 ? (int) n[1] : 0;
        int c = n.length > 2 ? (int) n[2] : 0;
        switch (name) {
            case "joint": return x.joint(a, b);
            case "move": return x.move(a, b, c);
            case "lose": return x.lose(a);
            case "bar": return x.bar(a, b);
            case "out": return x.out(a);
            case "weight": return x.weight(a, b);
            case "at": return x.at(a, b);
            case "of": return x.of(a, b);
            case "count": return x.count(a);
            case "stress": return x.stress(a, b, c);
            case "pull": return x.pull(a, b);
            case "fail": return x.fail(a, b);
            case "next": return x.next(a);
            case "face": return x.face(a, b);
            case "round": return x.round(a, b);
            case "beside": return x.beside(a);
            case "point": return x.point(a, b, c);
            case "plane": return x.plane(a, b, c);
            case "height": return x.height(a, b);
            case "corner": return x.corner(a, b, c, (int) n[3]);
            default: return answerOfTheRest(x, name, a, b, c, n);
        }
    }

    private static long answerOfTheRest(ForceFrames x, String name, int a, int b, int c, long[] n) {
        switch (name) {
            case "type": return x.type(a);
            case "read": return x.read();
            case "drift": return x.drift(a);
            case "undo": return x.undo();
            case "seed": return x.seed(a);
            case "image": return x.image();
            case "restore": return x.restore();
            case "what": return x.what(a, b, c);
            case "film": return x.film(a, b, c);
            case "sheet": return x.sheet(a, b, c);
            case "drop": return x.drop(a);
            case "item": return x.item(a, b, c, n[3]);
            case "copy": return x.copy(a, b, c, (int) n[3], (int) n[4]);
            default: throw new IllegalArgumentException("no call " + name);
        }
    }
}
