/** The boundaries that the terms name for all calls at once: which refusal comes first, and what it leaves as it was. */
public final class TermsEdgeTest {
    private static final Edges EDGES = new Edges();
    private static final String WHEEL3 = "tell <00,50,05,11;01,12,02,03,13,23> = 6\n";
    /**
     * All there is to be lost: 6 joints, 9 bars, weights, THE DRAW, 6 known steps and older ones, an
     * IMAGE of another frame, a TAPE of 2 letters, rows with items; sheet 3 holds nothing.
     */
    private static final String FULL_STATE = WHEEL3
        + """
        weight 0 2 = 10 | weight 1 3 = 9 | seed 77 = 1 | image = 1
        joint 5 5 = 4 | bar 4 1 = 6 | joint 2 2 = 5 | bar 5 3 = 7 | bar 5 1 = 8 | seed 78 = 77
        type 48 = 1 | type 44 = 2
        sheet 0 0 24 = 24 | item 0 0 0 100 = 1 | item 0 0 1 5 = 1 | item 0 0 23 -5 = 1 | sheet 1 1 3 = 3 | item 1 1 2 9 = 1 | sheet 2 2 0 = 0
        """;

    private TermsEdgeTest() {
    }

    public static void main(String[] args) {
        firstOfSeveral();
        refusedOfTheFrame();
        refusedOfTheRest();
        refusedWhereThereIsNone();
        notWhole();
        lowestTerms();
        latest();
        mostCalls();
        EDGES.end(2, 34);
    }

    private static void firstOfSeveral() {
        EDGES.edge("Answers below 0, of several the first that a call names",
            // BAD, NOT, FULL: each call here would earn all that come behind its answer.
            FULL_STATE + "joint 6 0 = -1 | joint 0 -1 = -1 | joint 0 0 = -2 | joint 1 0 = -2 | joint 3 3 = -3",
            FULL_STATE + "move 6 0 0 = -1 | move 0 6 0 = -1 | move 0 0 6 = -1 | move 0 0 0 = -2 | move 0 5 5 = -2 | move 3 4 4 = -2",
            FULL_STATE + "bar 6 6 = -1 | bar 0 0 = -1 | bar 0 6 = -1 | bar 0 1 = -2 | bar 4 0 = -2 | bar 4 2 = -3",
            "weight 9 0 = -1 | weight -1 0 = -1 | weight 0 10 = -1 | weight 0 1 = -2",
            // BAD, NONE.
            "tell <00,10,05,15;01,23> = 2 | point 2 0 0 = -1 | point 0 0 0 = -4 | plane 0 3 0 = -1 | plane 0 2 0 = -4 | height 4 0 = -1 | height 3 0 = -4",
            // BAD, SIZE; BAD, NULL, CAST, INDEX, NOT.
            "sheet 4 0 -1 = -1 | sheet 0 4 -1 = -1 | sheet 0 0 -1 = -14 | sheet 0 0 25 = -1",
            FULL_STATE + "what 3 4 -1 = -1 | what 3 0 -1 = -11 | what 0 1 -1 = -12 | what 0 0 16 = -13 | what 0 0 0 = -2",
            FULL_STATE + "copy 3 -1 4 -1 -1 = -1 | copy 3 -1 0 -1 -1 = -11 | copy 0 -1 1 -1 -1 = -12 | copy 0 -1 0 -1 -1 = -13");
    }

    private static void refusedOfTheFrame() {
        EDGES.edge("What is refused changes nothing, but as told.",
            FULL_STATE + """
            joint -1 0 = -1 | joint 6 0 = -1 | joint 0 6 = -1 | joint 0 5 = -2 | joint 5 3 = -2 | joint 3 3 = -3 | count 0 = 6
            move -1 3 3 = -1 | move 6 3 3 = -1 | move 0 6 0 = -1 | move 5 2 2 = -2 | move 5 1 1 = -2 | move 5 3 3 = -2 | at 5 0 = 2
            lose -1 = -1 | lose 6 = -1 | bar 5 5 = -1 | bar 5 6 = -1 | bar 5 3 = -2 | bar 5 4 = -2 | bar 5 2 = -3 | out -1 = -1 | out 9 = -1 | count 1 = 9
            weight -1 0 = -1 | weight 9 0 = -1 | weight 0 10 = -1 | weight 0 -10 = -1 | weight 0 2 = -2 | weight 1 3 = -2 | count 7 = 86
            """,
            FULL_STATE + """
            at 6 0 = -1 | at 0 4 = -1 | of 9 0 = -1 | of 0 4 = -1 | count -1 = -1 | count 9 = -1 | stress 9 0 0 = -1 | stress 0 9 0 = -1 | stress 0 0 3 = -1
            pull 9 0 = -1 | pull 0 3 = -1 | fail 11 0 = -1 | fail 0 2 = -1 | next 18 = -1 | face 9 0 = -1 | face 0 3 = -1 | round 0 18 = -1 | round 9 0 = -1 | beside 18 = -1
            point 9 0 0 = -1 | point 0 2 0 = -1 | plane 9 0 0 = -1 | plane 0 3 0 = -1 | height 6 0 = -1 | height 0 3 = -1 | corner 6 0 0 0 = -1 | corner 0 9 0 0 = -1
            """);
    }

    private static void refusedOfTheRest() {
        EDGES.edge("What is refused changes nothing, but as told.",
            FULL_STATE + """
            type 31 = -1 | type 127 = -1 | drift 0 = -1 | drift 41 = -1 | seed -1 = -1 | seed MIN = -1 | count 8 = 6
            what 4 0 0 = -1 | what 0 4 0 = -1 | what 3 0 0 = -11 | what 0 1 0 = -12 | what 0 0 16 = -13 | what 0 0 0 = -2
            film 4 0 0 = -1 | film 0 4 0 = -1 | film 3 0 0 = -11 | film 0 1 0 = -12 | film 0 0 16 = -13 | film 1 1 0 = -13 | film 2 2 0 = -13
            sheet 4 0 1 = -1 | sheet 0 4 1 = -1 | sheet 0 0 25 = -1 | sheet 0 0 -1 = -14 | sheet 3 3 -1 = -14 | drop 4 = -1 | drop -1 = -1 | drop 3 = -11
            item 4 0 0 7 = -1 | item 0 4 0 7 = -1 | item 3 0 0 7 = -11 | item 0 1 0 7 = -12 | item 0 0 24 7 = -13 | item 0 0 -1 7 = -13 | item 2 2 0 7 = -13
            copy 4 0 0 0 1 = -1 | copy 0 0 4 0 1 = -1 | copy 3 0 0 0 1 = -11 | copy 0 0 3 0 1 = -11 | copy 0 0 1 0 1 = -12 | copy 0 0 0 1 24 = -13 | copy 0 1 0 0 24 = -13 | copy 0 0 0 0 -1 = -13
            """,
            // But THE TAPE is empty behind a read, whatever is answered; a next read finds nothing there.
            FULL_STATE + "read = -21 | read = -20 | count 0 = 6 | count 8 = 6 | type 48 = 1 | type 49 = 2 | read = 0 | count 0 = 1");
    }

    private static void refusedWhereThereIsNone() {
        EDGES.edge("What is refused changes nothing, but as told.",
            "undo = -4 | restore = -4 | type 48 = 1 | sheet 0 3 2 = 2 | weight 8 9 = 9 | restore = -4 | undo = 0 | undo = -4 | seed 5 = 1 | undo = -4 | seed 5 = 5",
            WHEEL3 + "joint 5 5 = 4 | point 0 0 0 = -4 | plane 0 0 0 = -4 | height 0 0 = -4 | count 6 = -4",
            "tell <00,50,05,11;01,12> = 2 | type 48 | type 48 | type 44 | type 49 | type 50 | " + "type 32 | ".repeat(54) + "type 32 = 60 | type 48 = -3 | type 59 = -3 | type 127 = -1 | read = 0 | count 0 = 2");
    }

    private static void notWhole() {
        EDGES.edge("Else what is asked is NONE.",
            WHEEL3 + "count 6 = 1 | point 0 0 0 = 5 | plane 0 1 0 = 5 | height 3 0 = 5 | joint 5 5 = 4 | count 6 = -4 | point 0 0 0 = -4 | plane 0 1 0 = -4 | height 3 0 = -4",
            // What comes ahead of it in the document can be asked of any frame.
            WHEEL3 + "joint 5 5 = 4 | count 5 = 4 | next 0 = 8 | face 3 0 = 3 | round 3 2 = 11 | beside 11 = 3 | count 2 = 1 | pull 5 0 = 5 | corner 3 1 0 0 = 5");
    }

    private static void lowestTerms() {
        EDGES.edge("A fraction is told in lowest terms",
            // -5/3 times 1, 2, 3, 6, 9.
            WHEEL3 + "pull 5 0 = 5 | pull 5 1 = 3 | weight 0 2 = 10 | pull 5 0 = 10 | pull 5 1 = 3 | weight 0 3 = 11 | pull 5 0 = 5 | pull 5 1 = 1"
                + " | weight 0 6 = 12 | pull 5 0 = 10 | pull 5 1 = 1 | weight 0 9 = 15 | pull 5 0 = 15 | pull 5 1 = 1",
            WHEEL3 + "weight 0 3 = 10 | point 2 0 0 = 5 | point 2 0 1 = 1 | plane 2 2 0 = 25 | plane 2 2 1 = 1 | weight 0 2 = 12 | point 2 0 0 = 10 | point 2 0 1 = 3 | plane 2 2 0 = 50 | plane 2 2 1 = 3",
            "tell <00,10;01> = 1 | fail 4 0 = 3 | fail 4 1 = 5 | fail 6 0 = 2 | fail 6 1 = 5 | fail 8 0 = 1 | fail 8 1 = 5 | fail 3 0 = 7 | fail 3 1 = 10");
    }

    private static void latest() {
        EDGES.edge("UNDONE: the latest of a JOINT told, moved, lost, a BAR told, out, a WEIGHT told, of a TEXT, a turn of a DRIFT, is as it had not been",
            // One of each, in the document's order; then back, one by one, as far as 6 are known.
            "tell <00,20,02> = 0 | joint 2 2 = 3 | move 3 3 3 = 0 | lose 0 = 0 | bar 0 1 = 0 | out 0 = 0 | weight 4 4 = 9 | tell <55> = 0 | seed 0 = 1 | drift 1 = 0 | count 0 = 2 | count 8 = 6"
                + " | undo = 5 | count 0 = 1 | undo = 4 | count 0 = 3 | weight 4 4 = -2 | undo = 3 | weight 4 0 = -2 | undo = 2 | count 1 = 1 | undo = 1 | count 1 = 0 | undo = 0 | count 0 = 4 | at 3 0 = 3 | undo = -4",
            "tell <00,20,02> = 0 | joint 2 2 = 3 | move 3 3 3 = 0 | undo = 2 | at 3 0 = 2 | undo = 1 | count 0 = 3 | undo = 0 | count 0 = 0 | undo = -4",
            // A step that is undone and one told anew in its place.
            "joint 0 0 = 0 | joint 1 1 = 1 | undo = 1 | joint 2 2 = 1 | undo = 1 | count 0 = 1 | undo = 0 | count 0 = 0 | undo = -4");
    }

    private static void mostCalls() {
        // The last of 512 calls is as good as the first: one weight, told from -9 to 9 and down again.
        StringBuilder run = new StringBuilder();
        int was = 0;
        for (int call = 1; call < 512; call++) {
            int v = call % 36 < 19 ? call % 36 - 9 : 27 - call % 36;
            run.append("weight 7 ").append(v).append(" = ").append(was + 9).append('\n');
            was = v;
        }
        ForceFrames x = new ForceFrames();
        for (Call call : Call.list(run.toString())) {
            EDGES.due(call.toString(), call.on(x), call.due());
        }
        EDGES.due("the 512th call", x.count(7), 82 + was);
    }
}
