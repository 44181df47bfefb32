import java.math.BigInteger;

/** The boundaries of part 3 of the terms and of promises 22 to 28, a run for each sentence that names one. */
public final class DoneEdgeTest {
    private static final Edges EDGES = new Edges();
    private static final String FULL_FRAME = "tell <00,50,05,11,22,13;01,12,02,03,13,23,34,14,24> = 9\n";
    private static final String WHEEL3 = "tell <00,50,05,11;01,12,02,03,13,23> = 6\n";
    private static final int JOINT = 0, BAR = 1, LAST_BAR = 4, MOVE = 5, OUT = 6, WEIGHT = 7;

    private DoneEdgeTest() {
    }

    public static void main(String[] args) {
        type();
        read();
        textOfJoints();
        textOfBars();
        faultsOfJoints();
        faultsOfBars();
        blanks();
        driftTurns();
        draw();
        driftKinds();
        driftRefused();
        undo();
        undoOfEach();
        seed();
        image();
        restore();
        EDGES.end(22, 28);
    }

    /** The seed from which the next turn of a DRIFT is of this kind, with these p, q, r. */
    private static long seedFor(int kind, int p, int q, int r) {
        for (long v = 0; v < 32768; v++) {
            if (v % 8 == kind && v / 8 % 6 == p && v / 64 % 6 == q && v / 512 % 6 == r) {
                return seedBefore(v * 65536);
            }
        }
        throw new IllegalArgumentException("no such turn");
    }

    private static long seedBefore(long draw) {
        BigInteger bits = BigInteger.ONE.shiftLeft(31);
        BigInteger back = BigInteger.valueOf(1103515245).modInverse(bits);
        return BigInteger.valueOf(draw - 12345).multiply(back).mod(bits).longValueExact();
    }

    private static String turn(int kind, int p, int q, int r) {
        return "seed " + seedFor(kind, p, q, r) + " | drift 1";
    }

    private static String letters(int first, int last) {
        StringBuilder run = new StringBuilder();
        for (int i = first; i <= last; i++) {
            run.append("type ").append(i % 3 == 0 ? ',' : '0' + (i / 3 + 2 * (i % 3)) % 6).append(" = ").append(i).append('\n');
        }
        return run.toString();
    }

    private static void type() {
        EDGES.edge("One letter more behind THE TAPE: how many it has. BAD: not 32 .. 126; FULL: 60.",
            "type 31 = -1 | type 32 = 1 | type 126 = 2 | type 127 = -1 | type 33 = 3 | type 125 = 4",
            "type -1 = -1 | type 0 = -1 | type MIN = -1 | type MAX = -1 | type 65584 = -1 | type 304 = -1 | type 48 = 1",
            letters(1, 59) + "type 48 = 60 | type 48 = -3 | type 32 = -3 | type 126 = -3 | type 31 = -1 | type 127 = -1 | type MAX = -1",
            letters(1, 60) + "type 48 = -3 | read | type 48 = 1 | type 48 = 2 | read = 0 | count 0 = 1");
    }

    private static void read() {
        EDGES.edge("THE TAPE, which is empty then (whatever is answered), is a TEXT: how many BARS.",
            "tell <00,10;01> = 1 | read = -20 | type 48 = 1 | type 48 = 2 | read = 0 | type 48 = 1",
            "tell <00,10;0> = -27 | read = -20 | type 48 = 1 | read = -21 | type 48 = 1",
            "tell <00> = 0 | count 0 = 1 | count 1 = 0 | " + FULL_FRAME + " count 0 = 6 | count 1 = 9 | tell <55> = 0 | count 1 = 0 | at 0 0 = 5");
        EDGES.edge("A FAULT: -20 less its place (all else stays). WEIGHTS stay.",
            WHEEL3 + "weight 0 5 = 10 | weight 7 -3 = 9 | seed 9 = 1 | tell <> = -20 | tell <00,1> = -24 | tell <00;> = -23 | count 8 = 3",
            WHEEL3 + "sheet 0 1 4 = 4 | item 0 1 0 7 = 1 | image = 1 | tell <00,10;02> = -27 | count 0 = 4 | drop 0 = 4",
            "weight 0 5 = 10 | weight 7 -3 = 9 | seed 77 = 1 | tell <00,10;01> = 1 | count 7 = 83 | weight 0 5 = -2 | weight 7 -3 = -2 | seed 77 = 77",
            // The last place that a fault can have: the end of a tape that is full.
            "tell <00,50,05,11,22,13;01,12,02,03,13,23,34,14,                  > = -80",
            "tell <                                                           0> = -80",
            "tell <                                                           x> = -79",
            "tell <                                                          00> = 0",
            "tell <00,50,05,11,22;01,12,02,03,13,23,34,14,24                   > = 9");
    }

    private static void textOfJoints() {
        EDGES.edge("JOINTS with , between, two figures 0 .. 5 each (x, y), one at least; perhaps ;",
            "tell <00> = 0 | at 0 0 = 0 | at 0 1 = 0 | tell <55> = 0 | at 0 0 = 5 | at 0 1 = 5 | tell <05,50> = 0 | at 0 1 = 5 | at 1 0 = 5",
            "tell <> = -20 | tell <;> = -20 | tell <,> = -20 | tell <;01> = -20 | tell <,00> = -20",
            "tell <60> = -20 | tell <06> = -21 | tell </0> = -20 | tell <0/> = -21 | tell <90> = -20 | tell <-0> = -20 | tell <A0> = -20",
            "tell <0> = -21 | tell <0,> = -21 | tell <0;> = -21 | tell <000> = -22 | tell <0010> = -22 | tell <00.10> = -22 | tell <00:> = -22",
            "tell <00,> = -23 | tell <00,,> = -23 | tell <00,;> = -23 | tell <00,1> = -24 | tell <00,16> = -24 | tell <00,61> = -23",
            "tell <00,01,02,03,04,05> = 0 | count 0 = 6 | at 5 1 = 5");
    }

    private static void textOfBars() {
        EDGES.edge("then BARS with , between, one at least: two figures each, the numbers of two JOINTS, in any order.",
            "tell <00,10;01> = 1 | tell <00,10;10> = 1 | of 0 0 = 0 | of 0 1 = 1",
            "tell <00,10,01;21,10> = 2 | of 0 0 = 1 | of 0 1 = 2 | of 1 0 = 0 | of 1 1 = 1",
            "tell <00,10;> = -26 | tell <00,10;;> = -26 | tell <00,10;,> = -26 | tell <00,10;0> = -27 | tell <00,10;0,> = -27 | tell <00,10;0;> = -27",
            "tell <00,10;01,> = -29 | tell <00,10;01;> = -28 | tell <00,10;01;10> = -28 | tell <00,10;011> = -28 | tell <00,10;01 10> = -29 | tell <00,10;01,,> = -29",
            "tell <00,10,20;01;12> = -31 | tell <00,10,20;01,1> = -33 | tell <00,10,20;01,12,> = -35 | tell <00,10,20;01,12> = 2");
    }

    private static void faultsOfJoints() {
        EDGES.edge("of a JOINT the second figure, if there is one there ahead of it",
            "tell <00,00> = -24 | tell <00,10,00> = -27 | tell <55,55> = -24 | tell <00,00;01> = -24 | tell <00,10,01,10> = -30",
            "tell <01,10> = 0 | tell <00,01,02,03,04,04> = -36",
            // What is there in the frame so far counts for nothing.
            "joint 0 0 = 0 | tell <00,10> = 0 | tell <00,10> = 0 | count 8 = 3");
        EDGES.edge("the first figure of a 7th JOINT, a 10th BAR",
            "tell <00,01,02,03,04,05> = 0 | tell <00,01,02,03,04,05,> = -38 | tell <00,01,02,03,04,05,1> = -38 | tell <00,01,02,03,04,05,10> = -38",
            "tell <00,01,02,03,04,05,00> = -38 | tell <00,01,02,03,04,05, 10> = -39 | tell <00,01,02,03,04,05,;> = -38",
            FULL_FRAME + "tell <00,50,05,11,22,13;01,12,02,03,13,23,34,14,24,> = -65",
            "tell <00,50,05,11,22,13;01,12,02,03,13,23,34,14,24,25> = -65 | tell <00,50,05,11,22,13;01,12,02,03,13,23,34,14,24, 2> = -66",
            "tell <00,50,05,11,22,13;01,12,02,03,13,23,34,14,24,66> = -65 | count 0 = 0");
    }

    private static void faultsOfBars() {
        EDGES.edge("of a BAR a figure that is no JOINT",
            "tell <00,10;02> = -27 | tell <00,10;20> = -26 | tell <00,10;22> = -26 | tell <00,10;0x> = -27 | tell <00,10;x0> = -26",
            "tell <00;0> = -24 | tell <00;01> = -24 | tell <00;00> = -24 | tell <00;10> = -23",
            "tell <00,01,12,13,14,15;56> = -39 | tell <00,01,12,13,14,15;65> = -38 | tell <00,01,12,13,14,15;54> = 1",
            // The joints of the frame so far count for nothing.
            FULL_FRAME + "tell <00,10;02> = -27 | count 0 = 6");
        EDGES.edge("the second one that is the first, or by which that BAR is there twice, or the frame is not PLAIN.",
            "tell <00,10;00> = -27 | tell <00,10;11> = -27 | tell <00,10;01,11> = -30",
            "tell <00,10;01,01> = -30 | tell <00,10;01,10> = -30 | tell <00,10,01;01,12,21> = -36 | tell <00,10,01;01,12,20> = 3",
            "tell <00,20,10;01> = -30 | tell <00,55,05,50;01,23> = -36 | tell <00,55,05,50;01,2> = -36 | tell <00,55,05,50;01, 2 3> = -38",
            "tell <00,10,20;02> = -30 | tell <00,10,20;01,12> = 2 | tell <00,10,20;01,12,02> = -36");
    }

    private static void blanks() {
        EDGES.edge("A FAULT is the first letter (behind blanks) that can't stand there (the end: how many letters there are)",
            "tell < > = -21 | tell <   > = -23 | tell < 0> = -22 | tell < 0 > = -23 | tell <  x> = -22 | tell <0  x> = -23 | tell <0 6> = -22",
            "tell <00 , > = -25 | tell <00 ; > = -25 | tell <00 ,  ;> = -26 | tell <00 , 0 0> = -27 | tell <00  00> = -24",
            "tell <00,10;0   > = -30 | tell <00,10;01 ,  > = -32 | tell <00,10;01  ;> = -30 | tell <00,10; 0  0> = -30");
        EDGES.edge("Blanks count for nothing.",
            "tell <  0  1 , 2  3 ; 0  1  > = 1 | at 0 0 = 0 | at 0 1 = 1 | at 1 0 = 2 | at 1 1 = 3 | tell < 4 4 > = 0 | at 0 0 = 4",
            "type 48 = 1 | type 9 = -1 | type 48 = 2 | read = 0");
    }

    private static void driftTurns() {
        EDGES.edge("A DRIFT of n turns (1 .. 40; each may be UNDONE): how many BARS then. BAD.",
            "drift 0 = -1 | drift -1 = -1 | drift 41 = -1 | drift MIN = -1 | drift MAX = -1 | seed 1 = 1 | count 8 = 0",
            "drift 1 = 0 | count 8 = 1 | undo = 0 | drift 6 | count 8 = 6 | drift 40 | count 8 = 6 | undo = 5",
            "drift 5 | count 8 = 5 | drift 1 | count 8 = 6 | drift 1 | count 8 = 6",
            FULL_FRAME + "drift 0 = -1 | drift 41 = -1 | " + turn(OUT, 5, 0, 0) + " = 8",
            // 40 turns are 40 times one.
            "seed 4321 = 1 | drift 40 | seed " + drawAfter(4321, 40) + " = " + drawAfter(4321, 40),
            "seed 4321 = 1 | drift 39 | seed " + drawAfter(4321, 39) + " = " + drawAfter(4321, 39));
    }

    private static long drawAfter(long draw, int turns) {
        for (int i = 0; i < turns; i++) {
            draw = BigInteger.valueOf(draw).multiply(BigInteger.valueOf(1103515245)).add(BigInteger.valueOf(12345))
                .mod(BigInteger.ONE.shiftLeft(31)).longValueExact();
        }
        return draw;
    }

    private static void draw() {
        EDGES.edge("for each turn it becomes the lowest 31 bits of itself times 1103515245 and 12345 more",
            "drift 1 | seed 0 = 1103527590",
            "seed 0 = 1 | drift 1 | seed 0 = 12345",
            "seed MAX = 1 | drift 1 | seed 0 = 1043980748",
            "seed " + seedBefore(0) + " = 1 | drift 1 | seed 0 = 0",
            "seed " + seedBefore(2147483647L) + " = 1 | drift 1 | seed 0 = 2147483647",
            "seed 1073741824 = 1 | drift 1 | seed 0 = 1073754169");
        EDGES.edge("v is it by 65536 (cut), p v by 8 (cut) left over by 6, q v by 64 (cut) left over by 6, r v by 512 (cut) left over by 6.",
            // v is 0 up to 65535, and 1 from 65536 on: joint(0, 0), then bar(0, 0).
            "seed " + seedBefore(65535) + " = 1 | drift 1 = 0 | count 0 = 1 | at 0 0 = 0 | at 0 1 = 0",
            "seed " + seedBefore(65536) + " = 1 | drift 1 = 0 | count 0 = 0",
            // v is 32767: weight(4095 by 6, 511 by 6 and 63 by 6, less 5): weight(3, -1).
            "seed " + seedBefore(2147483647L) + " = 1 | drift 1 = 0 | weight 3 -1 = -2 | count 7 = 81",
            // p, q, r are 5 just below 6, and 0 from there on.
            "seed " + seedBefore(40L * 65536) + " = 1 | drift 1 = 0 | at 0 0 = 5 | at 0 1 = 0",
            "seed " + seedBefore(48L * 65536) + " = 1 | drift 1 = 0 | at 0 0 = 0 | at 0 1 = 0",
            "seed " + seedBefore(320L * 65536) + " = 1 | drift 1 = 0 | at 0 0 = 4 | at 0 1 = 5",
            "seed " + seedBefore(384L * 65536) + " = 1 | drift 1 = 0 | at 0 0 = 0 | at 0 1 = 0",
            // 3077 is 6 times 512, and 5: move(0, 0, 0). 3061 is not yet 6 times 512: move(4, 5, 5).
            "joint 3 3 = 0 | seed " + seedBefore(3077L * 65536) + " = 1 | drift 1 = 0 | at 0 0 = 0 | at 0 1 = 0",
            "tell <00,10,20,30,40> = 0 | seed " + seedBefore(3061L * 65536) + " = 1 | drift 1 = 0 | at 4 0 = 5 | at 4 1 = 5",
            "joint 3 3 = 0 | seed " + seedBefore((5L + 2560) * 65536) + " = 1 | drift 1 = 0 | at 0 0 = 3 | at 0 1 = 3",
            "joint 3 3 = 0 | " + turn(MOVE, 0, 4, 5) + " = 0 | at 0 0 = 4 | at 0 1 = 5");
    }

    private static void driftKinds() {
        EDGES.edge("v left over by 8 is 0: joint(p, q); 1, 2, 3, 4: bar(p, q); 5: move(p, q, r); 6: out(p); 7: weight(p, q and r together, less 5).",
            turn(JOINT, 5, 5, 0) + " = 0 | at 0 0 = 5 | at 0 1 = 5 | " + turn(JOINT, 0, 5, 0) + " = 0 | at 1 0 = 0 | at 1 1 = 5",
            "tell <00,10,01> = 0 | " + turn(BAR, 2, 0, 0) + " = 1 | of 0 0 = 0 | of 0 1 = 2 | " + turn(LAST_BAR, 1, 2, 5) + " = 2 | of 1 0 = 1 | of 1 1 = 2",
            "tell <00,10,01> = 0 | " + turn(2, 0, 1, 0) + " = 1 | " + turn(3, 0, 2, 0) + " = 2 | " + turn(3, 0, 2, 0) + " = 2",
            "tell <00,10,01> = 0 | " + turn(MOVE, 2, 5, 4) + " = 0 | at 2 0 = 5 | at 2 1 = 4 | " + turn(MOVE, 0, 0, 5) + " = 0 | at 0 1 = 5",
            FULL_FRAME + turn(OUT, 0, 0, 0) + " = 8 | of 0 0 = 1 | of 0 1 = 2 | " + turn(OUT, 5, 1, 1) + " = 7 | of 5 0 = 1 | of 5 1 = 4",
            turn(WEIGHT, 0, 0, 0) + " = 0 | weight 0 -5 = -2 | " + turn(WEIGHT, 5, 5, 5) + " = 0 | weight 5 5 = -2 | " + turn(WEIGHT, 0, 5, 0) + " = 0 | weight 0 0 = -2",
            // Up from 0 by just 1, down by just 1, and back to 0 by the least q with the greatest r.
            turn(WEIGHT, 1, 5, 1) + " = 0 | weight 1 1 = -2 | " + turn(WEIGHT, 2, 1, 3) + " = 0 | weight 2 -1 = -2 | " + turn(WEIGHT, 1, 0, 5) + " = 0 | weight 1 0 = -2");
    }

    /** Behind each refused turn the frame and the weights are as they were, and THE DRAW has gone on. */
    private static void driftRefused() {
        String six = "tell <00,10,20,30,40,50> = 0\n";
        EDGES.edge("(Nothing, if that is refused.)",
            "joint 5 5 = 0 | " + turn(JOINT, 5, 5, 0) + " = 0 | count 0 = 1 | count 8 = 2 | undo = 1 | seed 1 = " + seedFor(JOINT, 5, 5, 0),
            six + turn(JOINT, 5, 5, 0) + " = 0 | count 0 = 6 | count 8 = 2",
            "tell <00,20;01> = 1 | " + turn(JOINT, 1, 0, 0) + " = 1 | count 0 = 2 | count 8 = 2",
            turn(BAR, 0, 1, 0) + " = 0 | count 1 = 0 | joint 0 0 = 0 | " + turn(BAR, 0, 0, 0) + " = 0 | " + turn(BAR, 0, 1, 0) + " = 0 | count 8 = 4",
            six + turn(BAR, 0, 2, 0) + " = 0 | " + turn(BAR, 0, 1, 0) + " = 1 | " + turn(BAR, 1, 0, 0) + " = 1 | count 8 = 4",
            FULL_FRAME + turn(BAR, 5, 2, 0) + " = 9 | " + turn(LAST_BAR, 2, 5, 0) + " = 9 | at 5 2 = 0 | count 8 = 3",
            turn(MOVE, 0, 1, 1) + " = 0 | joint 0 0 = 0 | " + turn(MOVE, 0, 0, 0) + " = 0 | " + turn(MOVE, 1, 1, 1) + " = 0 | at 0 0 = 0 | count 8 = 4",
            "tell <00,40,22;01> = 1 | " + turn(MOVE, 2, 2, 0) + " = 1 | at 2 1 = 2 | " + turn(MOVE, 2, 4, 0) + " = 1 | at 2 0 = 2 | count 8 = 3",
            turn(OUT, 0, 0, 0) + " = 0 | tell <00,10;01> = 1 | " + turn(OUT, 1, 0, 0) + " = 1 | " + turn(OUT, 0, 0, 0) + " = 0 | count 8 = 4",
            turn(WEIGHT, 1, 0, 5) + " = 0 | count 7 = 82 | weight 1 0 = -2 | count 8 = 1 | undo = 0 | undo = -4");
    }

    private static void undo() {
        EDGES.edge("(6 are known, older ones lost)",
            "weight 0 2 | weight 0 3 | weight 0 4 | weight 0 5 | weight 0 6 | count 8 = 5 | weight 0 7 | count 8 = 6 | weight 0 8 | count 8 = 6 | weight 0 9 | count 8 = 6"
                + " | undo = 5 | weight 0 8 = -2 | undo = 4 | undo = 3 | undo = 2 | undo = 1 | undo = 0 | weight 0 3 = -2 | undo = -4 | undo = -4",
            "weight 0 2 | weight 0 3 | weight 0 4 | weight 0 5 | weight 0 6 | weight 0 7 | undo | undo | undo | undo | undo | undo = 0 | weight 0 1 = -2 | undo = -4",
            // Around the six more than once, with steps undone between.
            "weight 0 2 | weight 0 3 | weight 0 4 | weight 0 5 | weight 0 6 | undo = 4 | undo = 3 | weight 0 7 | weight 0 8 | weight 0 9 | count 8 = 6 | weight 1 1 | count 8 = 6"
                + " | undo = 5 | undo = 4 | undo = 3 | weight 0 7 = -2 | undo = 2 | weight 0 4 = -2 | undo = 1 | undo = 0 | weight 0 2 = -2 | undo = -4",
            "weight 0 2 | weight 0 3 | weight 0 4 | weight 0 5 | weight 0 6 | weight 0 7 | weight 0 8 | weight 0 9 | weight 1 1 | weight 1 2 | weight 1 3 | weight 1 4 | weight 1 5 | weight 1 6"
                + " | undo = 5 | weight 1 5 = -2 | undo = 4 | undo = 3 | undo = 2 | undo = 1 | undo = 0 | weight 1 0 = -2 | weight 0 9 = -2 | undo = -4");
        EDGES.edge("UNDONE: how many more may be. NONE: none is known.",
            "undo = -4 | joint 0 0 = 0 | undo = 0 | undo = -4 | count 0 = 0",
            "joint 6 0 = -1 | joint 0 0 = 0 | joint 0 0 = -2 | weight 0 1 = -2 | bar 0 0 = -1 | out 0 = -1 | lose 1 = -1 | move 0 0 0 = -2 | drift 0 = -1 | read = -20 | count 8 = 1 | undo = 0 | undo = -4",
            "seed 3 = 1 | type 48 = 1 | image = 1 | restore = 1 | sheet 0 0 1 = 1 | film 0 0 0 = 0 | item 0 0 0 1 = 1 | copy 0 0 0 0 1 = 1 | drop 0 = 1 | count 8 = 0 | undo = -4");
    }

    private static void undoOfEach() {
        EDGES.edge("JOINTS, BARS, WEIGHTS, THE DRAW are as ahead of it, whatever was told since.",
            "joint 2 3 = 0 | seed 5 = 1 | undo = 0 | count 0 = 0 | seed 1 = 1",
            "joint 2 3 = 0 | seed 5 = 1 | move 0 4 4 = 0 | seed 6 = 5 | undo = 1 | at 0 0 = 2 | at 0 1 = 3 | seed 5 = 5",
            WHEEL3 + "seed 5 = 1 | lose 0 = 3 | seed 6 = 5 | undo = 1 | count 0 = 4 | count 1 = 6 | of 3 0 = 0 | of 3 1 = 3 | at 0 0 = 0 | seed 5 = 5",
            "tell <00,10> = 0 | bar 0 1 = 0 | seed 6 = 1 | undo = 1 | count 1 = 0 | seed 1 = 1 | bar 0 1 = 0",
            WHEEL3 + "out 1 = 5 | seed 6 = 1 | undo = 1 | of 1 0 = 1 | of 1 1 = 2 | of 5 0 = 2 | seed 1 = 1",
            "weight 8 -9 = 9 | seed 6 = 1 | undo = 0 | weight 8 0 = -2 | seed 1 = 1",
            WHEEL3 + "weight 0 4 = 10 | tell <55> = 0 | seed 6 = 1 | undo = 2 | count 0 = 4 | count 1 = 6 | pull 0 0 = 4 | seed 1 = 1",
            "drift 1 | seed 6 = 1103527590 | undo = 0 | seed 1 = 1",
            "drift 3 | undo = 2 | undo = 1 | seed 1 = 1103527590 | undo = 0 | seed 1 = 1",
            // What comes of the frame is asked on both sides of the step.
            WHEEL3 + "count 2 = 1 | out 0 = 5 | count 2 = 0 | count 5 = 3 | undo = 1 | count 2 = 1 | count 5 = 4 | pull 5 0 = 5 | height 3 0 = 5",
            WHEEL3 + "pull 5 0 = 5 | weight 0 -9 = 10 | pull 5 0 = 15 | undo = 1 | pull 5 0 = 5 | pull 5 1 = 3 | pull 5 2 = 2",
            // Neither THE TAPE nor SHEETS nor an IMAGE are undone.
            "weight 0 4 = 10 | type 48 = 1 | sheet 2 1 3 = 3 | image = 1 | undo = 0 | type 48 = 2 | drop 2 = 3 | restore = 1 | weight 0 4 = -2 | undo = 0");
    }

    private static void seed() {
        EDGES.edge("THE DRAW becomes v: what it was. BAD: below 0.",
            "seed -1 = -1 | seed MIN = -1 | seed 0 = 1 | seed MAX = 0 | seed -1 = -1 | seed 1 = 2147483647 | seed 1 = 1",
            "seed 0 = 1 | seed 0 = 0 | count 8 = 0 | undo = -4 | drift 1 = 0 | count 0 = 1");
    }

    private static void image() {
        EDGES.edge("All but SHEETS, THE TAPE is kept as an IMAGE: 1.",
            // Of a new object, too.
            "image = 1 | joint 0 0 = 0 | weight 0 5 = 10 | seed 9 = 1 | restore = 1 | count 0 = 0 | count 7 = 82 | count 8 = 0 | seed 1 = 1 | undo = -4",
            WHEEL3 + "weight 0 5 = 10 | seed 9 = 1 | image = 1 | image = 1 | count 8 = 2 | lose 0 = 3 | weight 8 1 = 9 | drift 9 | restore = 1 | count 0 = 4 | count 1 = 6 | count 7 = 86 | count 8 = 2 | seed 9 = 9",
            "type 48 = 1 | sheet 0 0 5 = 5 | image = 1 | type 48 = 2 | sheet 1 1 6 = 6 | drop 0 = 5 | restore = 1 | type 44 = 3 | drop 0 = -11 | drop 1 = 6",
            "type 48 = 1 | type 48 = 2 | image = 1 | read = 0 | restore = 1 | count 0 = 0 | read = -20",
            "joint 0 0 = 0 | image = 1 | joint 1 0 = 1 | image = 1 | lose 0 = 0 | restore = 1 | count 0 = 2 | undo = 1 | undo = 0 | undo = -4");
    }

    private static void restore() {
        EDGES.edge("All is as it was then: 1. NONE: there is none.",
            "restore = -4 | joint 0 0 = 0 | restore = -4 | count 0 = 1 | count 8 = 1",
            "joint 0 0 = 0 | image = 1 | restore = 1 | restore = 1 | count 8 = 1 | lose 0 = 0 | restore = 1 | count 0 = 1 | undo = 0 | restore = 1 | count 0 = 1 | count 8 = 1",
            WHEEL3 + "image = 1 | lose 3 = 3 | count 2 = 0 | count 5 = 2 | fail 5 0 = 1 | restore = 1 | count 2 = 1 | count 5 = 4 | fail 5 0 = 7 | height 3 0 = 5",
            WHEEL3 + "image = 1 | weight 0 0 = 10 | pull 5 0 = 0 | restore = 1 | pull 5 0 = 5 | point 0 0 0 = 5",
            // Six steps known then are known again, whatever came since.
            "weight 0 2 | weight 0 3 | weight 0 4 | weight 0 5 | weight 0 6 | weight 0 7 | weight 0 8 | image = 1 | drift 40 | restore = 1 | count 8 = 6 | undo = 5 | weight 0 7 = -2"
                + " | undo = 4 | undo = 3 | undo = 2 | undo = 1 | undo = 0 | weight 0 2 = -2 | undo = -4 | restore = 1 | undo = 5",
            // A restore is no step of its own, and what was done since is not known.
            "image = 1 | weight 0 2 = 10 | weight 0 3 = 11 | restore = 1 | count 8 = 0 | undo = -4 | weight 0 1 = -2");
    }
}
