/** The boundaries of part 1 of the terms and of promises 1 to 13, a run for each sentence that names one. */
public final class FrameEdgeTest {
    private static final Edges EDGES = new Edges();
    /** Six joints, one of them alone, and all nine bars: S is 2. */
    private static final String FULL_FRAME = "tell <00,50,05,11,22,13;01,12,02,03,13,23,34,14,24> = 9\n";
    private static final String WHEEL3 = "tell <00,50,05,11;01,12,02,03,13,23> = 6\n";
    /** Six joints and nine bars without a stress: stiff, and each bar is needed. */
    private static final String STIFF9 = "tell <00,50,05,11,31,12;01,12,02,34,45,35,03,14,25> = 9\n";

    private static final String NINE_WEIGHTS = "weight 0 -9 | weight 1 9 | weight 2 1 | weight 3 2 | weight 4 3 | weight 5 4 | weight 6 5 | weight 7 6 | weight 8 -7\n";
    private static final String ALL_STAY = " | weight 0 -9 = -2 | weight 1 9 = -2 | weight 2 1 = -2 | weight 3 2 = -2 | weight 4 3 = -2"
        + " | weight 5 4 = -2 | weight 6 5 = -2 | weight 7 6 = -2 | weight 8 -7 = -2 | count 7 = 95";

    private FrameEdgeTest() {
    }

    public static void main(String[] args) {
        newObject();
        places();
        howManyJoints();
        howManyBars();
        plainByBar();
        plainByJoint();
        plainByMove();
        move();
        lose();
        bar();
        out();
        weights();
        at();
        of();
        count();
        stress();
        fractions();
        pull();
        stiff();
        fail();
        EDGES.end(2, 13);
    }

    private static void newObject() {
        EDGES.edge("`ForceFrames()`: As told.",
            "count 0 = 0 | count 1 = 0 | count 2 = 0 | count 3 = 0 | count 4 = 0 | count 5 = 0 | count 6 = -4 | count 8 = 0",
            "at 0 0 = -1 | of 0 0 = -1 | next 0 = -1 | face 0 0 = -1 | round 0 0 = -1 | beside 0 = -1 | pull 0 0 = -1",
            "undo = -4 | restore = -4 | seed 1 = 1 | type 48 = 1 | read = -21",
            "drop 0 = -11 | drop 1 = -11 | drop 2 = -11 | drop 3 = -11");
        EDGES.edge("(the first 1, the others 0 at first; they stay, whatever becomes of the frame)",
            "weight 0 1 = -2 | weight 1 0 = -2 | weight 2 0 = -2 | weight 3 0 = -2 | weight 4 0 = -2",
            "weight 5 0 = -2 | weight 6 0 = -2 | weight 7 0 = -2 | weight 8 0 = -2 | count 7 = 82",
            "weight 0 0 = 10 | weight 1 1 = 9 | weight 8 1 = 9",
            "weight 0 7 = 10 | weight 8 -9 = 9 | " + FULL_FRAME + " weight 0 7 = -2 | weight 8 -9 = -2 | count 7 = 79",
            "joint 0 0 = 0 | weight 3 2 = 9 | lose 0 = 0 | weight 3 2 = -2 | count 7 = 84",
            WHEEL3 + "weight 0 5 = 10 | out 0 = 5 | weight 0 5 = -2 | move 3 2 2 = 3 | weight 0 5 = -2",
            WHEEL3 + NINE_WEIGHTS + "lose 3 = 3" + ALL_STAY,
            WHEEL3 + NINE_WEIGHTS + "out 5 = 5" + ALL_STAY,
            WHEEL3 + NINE_WEIGHTS + "move 3 2 2 = 3" + ALL_STAY,
            WHEEL3 + NINE_WEIGHTS + "joint 5 5 = 4 | bar 4 1 = 6" + ALL_STAY,
            NINE_WEIGHTS + WHEEL3 + "lose 0 = 3 | lose 0 = 1 | lose 0 = 0 | lose 0 = 0" + ALL_STAY,
            NINE_WEIGHTS + FULL_FRAME + "tell <55> = 0" + ALL_STAY);
        EDGES.edge("THE DRAW is a number of 31 bits (1 at first)", "seed 5 = 1 | seed 5 = 5");
        EDGES.edge("sheets 0 .. 3: nothing (at first)",
            "what 0 0 0 = -11 | film 1 1 0 = -11 | item 2 2 0 5 = -11 | copy 3 0 3 0 0 = -11");
    }

    private static void places() {
        EDGES.edge("have x, y, each 0 .. 5",
            "joint 0 0 = 0 | joint 0 5 = 1 | joint 5 0 = 2 | joint 5 5 = 3 | at 1 0 = 0 | at 1 1 = 5 | at 2 0 = 5 | at 2 1 = 0",
            "joint -1 0 = -1 | joint 6 0 = -1 | joint 0 -1 = -1 | joint 0 6 = -1 | count 0 = 0",
            "joint MIN 0 = -1 | joint MAX 0 = -1 | joint 0 MIN = -1 | joint 0 MAX = -1 | count 8 = 0",
            "joint 3 3 = 0 | move 0 0 0 = 0 | move 0 0 5 = 0 | move 0 5 0 = 0 | move 0 5 5 = 0",
            "joint 3 3 = 0 | move 0 -1 0 = -1 | move 0 6 0 = -1 | move 0 0 -1 = -1 | move 0 0 6 = -1",
            "joint 3 3 = 0 | move 0 MIN 0 = -1 | move 0 MAX 0 = -1 | move 0 0 MIN = -1 | move 0 0 MAX = -1");
        EDGES.edge("no two the same place.",
            "joint 2 3 = 0 | joint 2 3 = -2 | joint 3 2 = 1 | joint 2 2 = 2 | joint 3 3 = 3 | joint 3 2 = -2",
            "joint 2 3 = 0 | joint 3 2 = 1 | move 1 2 3 = -2 | move 0 3 2 = -2 | move 1 2 2 = 0 | move 0 3 2 = 0");
    }

    private static void howManyJoints() {
        String six = "joint 0 0 = 0 | joint 1 0 = 1 | joint 2 0 = 2 | joint 3 0 = 3 | joint 4 0 = 4 | joint 5 0 = 5\n";
        EDGES.edge("JOINTS 0 .. n less 1 (none at first, 6 at most)",
            "count 0 = 0 | lose 0 = -1 | move 0 1 1 = -1 | at 0 0 = -1",
            six + "count 0 = 6 | joint 0 1 = -3 | joint 5 5 = -3 | at 6 0 = -1 | at 5 0 = 5",
            six + "joint 0 1 = -3 | lose 2 = 0 | joint 0 1 = 5 | joint 0 2 = -3",
            six + "joint 0 1 = -3 | undo = 5 | joint 0 1 = 5 | joint 0 2 = -3");
        EDGES.edge("A JOINT more at x, y: its number. BAD; NOT: there is one, or a BAR goes over it; FULL.",
            six + "joint 6 1 = -1 | joint -1 1 = -1 | joint 5 6 = -1 | joint 3 0 = -2 | joint 3 1 = -3",
            FULL_FRAME + "joint 3 0 = -2 | joint 5 5 = -3 | joint 4 1 = -2 | joint 6 0 = -1 | joint 0 0 = -2");
    }

    private static void howManyBars() {
        EDGES.edge("BARS 0 on (9 at most), as they came",
            "count 1 = 0 | out 0 = -1 | of 0 0 = -1",
            FULL_FRAME + "count 1 = 9 | of 8 0 = 2 | of 8 1 = 4 | of 9 0 = -1 | bar 5 2 = -3",
            FULL_FRAME + "bar 2 5 = -3 | out 8 = 8 | bar 5 2 = 8 | of 8 0 = 2 | of 8 1 = 5 | bar 2 4 = -3",
            FULL_FRAME + "bar 2 5 = -3 | lose 4 = 6 | bar 4 2 = 6 | of 6 0 = 2 | of 6 1 = 4",
            "tell <00,50,05,11,22,13;01,12,02,03,13,23,34,14> = 8 | bar 5 2 = 8 | bar 2 4 = -3 | undo = 1 | bar 2 4 = 8");
        EDGES.edge("each of two JOINTS a, b (a less than b), no two of the same.",
            "joint 0 0 = 0 | joint 1 1 = 1 | bar 1 0 = 0 | of 0 0 = 0 | of 0 1 = 1 | bar 0 1 = -2 | bar 1 0 = -2",
            "joint 0 0 = 0 | joint 1 1 = 1 | bar 0 1 = 0 | of 0 0 = 0 | of 0 1 = 1 | bar 1 0 = -2",
            "tell <00,11;10> = 1 | of 0 0 = 0 | of 0 1 = 1 | out 0 = 0 | bar 0 1 = 0 | bar 0 1 = -2",
            "tell <00,10,01,11;32,13,02> = 3 | lose 0 = 2 | of 0 0 = 1 | of 0 1 = 2 | of 1 0 = 0 | of 1 1 = 2");
        EDGES.edge("BAD: also b is a; NOT: there is one, or the frame would not be PLAIN; FULL.",
            FULL_FRAME + "bar 5 5 = -1 | bar 5 6 = -1 | bar 0 1 = -2 | bar 5 0 = -2 | bar 5 3 = -3 | bar 5 2 = -3",
            "tell <00,10,20;01> = 1 | bar 1 1 = -1 | bar 0 2 = -2 | bar 1 2 = 1 | bar 0 2 = -2");
    }

    private static void plainByBar() {
        EDGES.edge("no JOINT lies on a BAR but its own two",
            "tell <00,20,10> = 0 | bar 0 1 = -2 | bar 0 2 = 0 | bar 1 2 = 1",
            "tell <00,02,01> = 0 | bar 1 0 = -2 | bar 2 0 = 0",
            "tell <00,55,33> = 0 | bar 0 1 = -2 | bar 2 1 = 0",
            "tell <05,50,41> = 0 | bar 0 1 = -2 | bar 2 1 = 0",
            "tell <00,42,21> = 0 | bar 0 1 = -2",
            "tell <00,42,11,31> = 0 | bar 0 1 = 0",
            "tell <10,20,00,30> = 0 | bar 0 1 = 0 | bar 2 3 = -2");
        EDGES.edge("no two BARS have a point in common but a JOINT of both.",
            "tell <00,55,05,50;01> = 1 | bar 2 3 = -2 | out 0 = 0 | bar 2 3 = 0",
            "tell <00,20,11,10;01> = -33",
            "tell <00,30,14,21;01> = 1 | bar 2 3 = 1",
            // (0,0) to (5,2) goes by 0.8 at x 2 and by 1.2 at x 3: just above (3,1), just below (2,1).
            "tell <00,52,31,20;01> = 1 | bar 2 3 = 1",
            "tell <00,52,32,21;01> = 1 | bar 2 3 = 1",
            "tell <00,52,31,21;01> = 1 | bar 2 3 = -2",
            "tell <00,52,32,20;01> = 1 | bar 2 3 = -2",
            "tell <00,10,20,30;01> = 1 | bar 2 3 = 1 | bar 1 2 = 2",
            "tell <00,22,33,55;01> = 1 | bar 2 3 = 1",
            "tell <00,10,11,01;01,12,23,03> = 4 | bar 0 2 = 4 | bar 1 3 = -2",
            "tell <00,50,25,24;01,12,02> = 3 | bar 3 0 = 3 | bar 3 1 = 4 | bar 3 2 = 5");
    }

    private static void plainByJoint() {
        EDGES.edge("NOT: there is one, or a BAR goes over it; FULL.",
            "tell <00,30;01> = 1 | joint 0 0 = -2 | joint 1 0 = -2 | joint 2 0 = -2 | joint 3 0 = -2 | joint 4 0 = 2",
            "tell <20,40;01> = 1 | joint 3 0 = -2 | joint 1 0 = 2 | joint 5 0 = 3 | joint 3 1 = 4",
            "tell <11,44;01> = 1 | joint 2 2 = -2 | joint 3 3 = -2 | joint 0 0 = 2 | joint 5 5 = 3 | joint 2 3 = 4",
            "tell <14,41;01> = 1 | joint 2 3 = -2 | joint 3 2 = -2 | joint 0 5 = 2 | joint 5 0 = 3 | joint 2 2 = 4",
            "tell <00,24;10> = 1 | joint 1 2 = -2 | joint 1 1 = 2 | joint 1 3 = 3 | joint 3 5 = 4",
            "tell <00,30> = 0 | joint 1 0 = 2 | bar 0 1 = -2",
            "tell <00,30;01> = 1 | joint 1 0 = -2 | out 0 = 0 | joint 1 0 = 2");
    }

    private static void plainByMove() {
        EDGES.edge("NOT: it is there, or another one, or the frame would not be PLAIN.",
            "tell <00,40,22;01> = 1 | move 2 2 0 = -2 | move 2 5 0 = 0 | move 2 3 0 = -2 | move 2 2 1 = 0",
            "tell <00,02,20,11;01,02> = 2 | move 1 2 2 = -2 | move 1 2 3 = 1 | move 1 5 5 = -2",
            "tell <00,02,05;01,12> = 2 | move 0 0 4 = -2 | move 0 0 3 = -2 | move 0 0 1 = 1 | move 0 1 3 = 1",
            "tell <00,50,02,52;01,23> = 2 | move 0 0 3 = -2 | move 0 0 1 = 1 | move 2 2 0 = -2 | move 2 0 0 = -2 | move 2 0 3 = 1",
            "tell <00,50,02,52,15;01,23> = 2 | move 4 1 1 = 0 | move 4 1 2 = -2 | move 4 1 0 = -2",
            "tell <20,30,50;01> = 1 | move 0 0 0 = 1 | move 1 5 0 = -2 | move 1 4 0 = 1 | move 2 3 0 = -2",
            "tell <00,30;01> = 1 | move 0 2 0 = 1 | move 0 4 0 = 1 | move 1 5 0 = 1 | move 0 5 0 = -2",
            "tell <22,00,40,24;01,02,03> = 3 | move 0 2 0 = 3 | move 0 1 1 = 3 | move 0 0 0 = -2 | move 0 3 0 = 3");
    }

    private static void move() {
        EDGES.edge("A JOINT moves to x, y: how many BARS it has. BAD; NOT: it is there",
            WHEEL3 + "move -1 5 5 = -1 | move 4 5 5 = -1 | move MIN 5 5 = -1 | move MAX 5 5 = -1",
            WHEEL3 + "move 0 0 0 = -2 | move 3 1 1 = -2 | move 3 0 5 = -2 | move 3 2 2 = 3 | move 3 2 2 = -2 | move 3 1 1 = 3",
            WHEEL3 + "move 4 9 9 = -1 | move 3 6 1 = -1 | move 3 1 6 = -1 | move 3 0 0 = -2",
            "joint 0 0 = 0 | move 0 0 0 = -2 | move 0 0 1 = 0 | count 8 = 2 | move 1 0 2 = -1",
            FULL_FRAME + "move 5 0 4 = -2 | move 5 0 5 = -2 | move 5 5 5 = 0 | move 0 0 0 = -2 | count 8 = 2");
    }

    private static void lose() {
        EDGES.edge("A JOINT and its BARS are lost; JOINTS, BARS behind get numbers less: how many BARS are left. BAD.",
            "lose 0 = -1 | lose -1 = -1 | lose MIN = -1 | lose MAX = -1 | count 8 = 0",
            WHEEL3 + "lose 4 = -1 | lose -1 = -1 | lose 3 = 3 | lose 3 = -1 | at 2 1 = 5 | of 2 1 = 2",
            WHEEL3 + "lose 0 = 3 | at 0 0 = 5 | at 2 0 = 1 | of 0 0 = 0 | of 0 1 = 1 | of 1 0 = 0 | of 1 1 = 2 | of 2 0 = 1 | of 2 1 = 2",
            WHEEL3 + "lose 1 = 3 | lose 1 = 1 | lose 1 = 0 | count 0 = 1 | lose 0 = 0 | count 0 = 0 | lose 0 = -1",
            FULL_FRAME + "lose 5 = 9 | lose 5 = -1 | count 0 = 5 | count 1 = 9 | lose 4 = 6",
            "tell <55,00,10;12> = 1 | lose 0 = 1 | of 0 0 = 0 | of 0 1 = 1 | at 0 0 = 0 | at 1 0 = 1 | at 2 0 = -1",
            "tell <01,12,23,34,45,50> = 0 | lose 2 = 0 | at 1 0 = 1 | at 1 1 = 2 | at 2 0 = 3 | at 2 1 = 4 | at 3 0 = 4 | at 3 1 = 5 | at 4 0 = 5 | at 4 1 = 0 | at 5 1 = -1");
    }

    private static void bar() {
        EDGES.edge("A BAR more of JOINTS a and b (in any order): its number.",
            "bar 0 0 = -1 | bar 0 1 = -1 | joint 0 0 = 0 | bar 0 0 = -1 | bar 0 1 = -1 | bar 1 0 = -1",
            "tell <00,10,01> = 0 | bar 2 3 = -1 | bar 3 2 = -1 | bar -1 0 = -1 | bar 0 -1 = -1 | bar 2 0 = 0 | bar 1 2 = 1",
            "tell <00,10,01> = 0 | bar MIN 0 = -1 | bar 0 MIN = -1 | bar MAX 0 = -1 | bar 0 MAX = -1 | bar 2 2 = -1",
            "tell <00,10,01,02,03,04> = 0 | bar 5 5 = -1 | bar 6 6 = -1 | bar 5 6 = -1 | bar 5 0 = -2 | bar 5 4 = 0 | bar 0 2 = 1");
    }

    private static void out() {
        EDGES.edge("BAR k is out, those behind get numbers less: how many are left. BAD.",
            "out 0 = -1 | out -1 = -1 | joint 0 0 = 0 | joint 1 0 = 1 | out 0 = -1 | bar 0 1 = 0 | out 1 = -1 | out 0 = 0 | out 0 = -1",
            WHEEL3 + "out -1 = -1 | out 6 = -1 | out MIN = -1 | out MAX = -1 | out 5 = 5 | out 5 = -1 | of 4 0 = 1 | of 4 1 = 3",
            WHEEL3 + "out 0 = 5 | of 0 0 = 1 | of 0 1 = 2 | of 4 0 = 2 | of 4 1 = 3 | of 5 0 = -1 | count 0 = 4",
            FULL_FRAME + "out 9 = -1 | out 8 = 8 | out 8 = -1 | out 0 = 7 | of 6 0 = 1 | of 6 1 = 4 | of 7 0 = -1");
    }

    private static void weights() {
        EDGES.edge("WEIGHTS 0 .. 8 are -9 .. 9",
            "weight -1 5 = -1 | weight 9 5 = -1 | weight MIN 5 = -1 | weight MAX 5 = -1 | weight 0 5 = 10 | weight 8 5 = 9",
            "weight 0 -10 = -1 | weight 0 10 = -1 | weight 0 MIN = -1 | weight 0 MAX = -1 | weight 8 -10 = -1 | weight 8 10 = -1",
            "weight 0 -9 = 10 | weight 0 9 = 0 | weight 0 10 = -1 | weight 0 -9 = 18 | weight 0 -10 = -1 | weight 0 1 = 0");
        EDGES.edge("WEIGHT j becomes v: what it was, and 9 together. BAD; NOT: it is so.",
            "weight 0 1 = -2 | weight 9 0 = -1 | weight 0 -9 = 10 | weight 0 -9 = -2 | weight 0 9 = 0 | weight 0 9 = -2 | weight 0 0 = 18",
            "weight 4 0 = -2 | weight 4 1 = 9 | weight 4 1 = -2 | weight 4 0 = 10 | count 8 = 2");
        EDGES.edge("7 the sum of WEIGHTS and 81 together",
            "count 7 = 82 | weight 0 -9 = 10 | count 7 = 72 | weight 1 -9 | weight 2 -9 | weight 3 -9 | weight 4 -9 | weight 5 -9"
                + " | weight 6 -9 | weight 7 -9 | count 7 = 9 | weight 8 -9 = 9 | count 7 = 0",
            "weight 0 9 = 10 | weight 1 9 | weight 2 9 | weight 3 9 | weight 4 9 | weight 5 9 | weight 6 9 | weight 7 9"
                + " | count 7 = 153 | weight 8 9 = 9 | count 7 = 162");
    }

    private static void at() {
        EDGES.edge("2 how many BARS it has, 3 JOINTS at the other ends (a set: bits). BAD.",
            "at 0 0 = -1 | at -1 0 = -1 | joint 0 5 = 0 | at 0 -1 = -1 | at 0 0 = 0 | at 0 1 = 5 | at 0 2 = 0 | at 0 3 = 0 | at 0 4 = -1",
            "joint 0 5 = 0 | at 1 0 = -1 | at -1 0 = -1 | at MIN 0 = -1 | at MAX 0 = -1 | at 0 MIN = -1 | at 0 MAX = -1",
            "tell <22,00,40,24,44,12;01,02,03,04,05> = 5 | at 0 2 = 5 | at 0 3 = 62 | at 5 2 = 1 | at 5 3 = 1 | at 6 3 = -1",
            "tell <00,40,24,44,12,22;50,51,52,53,54> = 5 | at 5 2 = 5 | at 5 3 = 31 | at 0 2 = 1 | at 0 3 = 32");
    }

    private static void of() {
        EDGES.edge("0 a, 1 b, 2 whether it LEADS (1, 0), 3 whether it is NEEDED (1, 0). BAD.",
            "of 0 0 = -1 | tell <00,10;01> = 1 | of 0 -1 = -1 | of 0 0 = 0 | of 0 1 = 1 | of 0 2 = 0 | of 0 3 = 1 | of 0 4 = -1",
            "tell <00,10;01> = 1 | of 1 0 = -1 | of -1 0 = -1 | of MIN 0 = -1 | of MAX 0 = -1 | of 0 MIN = -1 | of 0 MAX = -1",
            FULL_FRAME + "of 8 0 = 2 | of 9 0 = -1 | of 8 4 = -1");
        EDGES.edge("BAR k LEADS, if there is a STRESS in which it is not 0, but all BARS below it are.",
            WHEEL3 + "of 0 2 = 1 | of 1 2 = 0 | of 5 2 = 0",
            FULL_FRAME + "of 0 2 = 1 | of 1 2 = 1 | of 2 2 = 0 | of 8 2 = 0",
            "tell <00,50,05,11,55;14,24,01,12,02,03,13,23> = 8 | of 0 2 = 0 | of 1 2 = 0 | of 2 2 = 1 | of 3 2 = 0",
            WHEEL3 + "weight 0 0 = 10 | of 0 2 = 1 | out 5 = 5 | of 0 2 = 0");
        EDGES.edge("A BAR is NEEDED, if it's 0 in each STRESS.",
            WHEEL3 + "of 0 3 = 0 | of 5 3 = 0 | weight 0 0 = 10 | of 0 3 = 0 | out 0 = 5 | of 0 3 = 1 | of 4 3 = 1",
            "tell <00,50,05,11,55;14,24,01,12,02,03,13,23> = 8 | of 0 3 = 1 | of 1 3 = 1 | of 2 3 = 0 | of 7 3 = 0",
            FULL_FRAME + "of 0 3 = 0 | of 1 3 = 0 | of 8 3 = 0",
            STIFF9 + "of 0 3 = 1 | of 8 3 = 1 | count 2 = 0");
    }

    private static void count() {
        EDGES.edge("7 the sum of WEIGHTS and 81 together, 8 what may be UNDONE. BAD.",
            "count -1 = -1 | count 0 = 0 | count 8 = 0 | count 9 = -1 | count MIN = -1 | count MAX = -1",
            FULL_FRAME + "count -1 = -1 | count 0 = 6 | count 1 = 9 | count 2 = 2 | count 3 = 0 | count 4 = 0 | count 5 = 6 | count 6 = -4 | count 8 = 1 | count 9 = -1");
        EDGES.edge("S: how many BARS LEAD.",
            "count 2 = 0 | joint 0 0 = 0 | joint 1 0 = 1 | bar 0 1 = 0 | count 2 = 0",
            "tell <00,10,20,30,40,50;01,12,23,34,45> = 5 | count 2 = 0",
            WHEEL3 + "count 2 = 1 | weight 0 0 = 10 | count 2 = 1 | out 3 = 5 | count 2 = 0",
            FULL_FRAME + "count 2 = 2 | out 0 = 8 | count 2 = 1 | out 0 = 7 | count 2 = 0",
            "tell <00,50,05,11,31,13;01,12,02,34,45,35,03,14,25> = 9 | count 2 = 1 | move 5 1 2 = 3 | count 2 = 0");
    }

    private static void stress() {
        EDGES.edge("STRESS j (0 .. S less 1) is that in which the j-th (0 on, by their numbers) of those that LEAD is 1, and all others that LEAD are 0",
            WHEEL3 + "stress 0 0 0 = 1 | stress 0 0 1 = 1 | stress 0 0 2 = 1 | stress 1 0 0 = -1 | stress -1 0 0 = -1",
            FULL_FRAME + "stress 0 0 0 = 1 | stress 0 1 0 = 0 | stress 1 0 0 = 0 | stress 1 1 0 = 1 | stress 2 0 0 = -1",
            FULL_FRAME + "stress MIN 0 0 = -1 | stress MAX 0 0 = -1 | stress 1 MIN 0 = -1 | stress 1 MAX 0 = -1",
            "stress 0 0 0 = -1 | tell <00,50,05;01,12,02> = 3 | stress 0 0 0 = -1 | stress 0 0 1 = -1");
        EDGES.edge("The number of BAR k in STRESS j, a fraction (what 0 .. 2). BAD.",
            WHEEL3 + "stress 0 -1 0 = -1 | stress 0 6 0 = -1 | stress 0 5 0 = 5 | stress 0 5 1 = 3 | stress 0 5 2 = 2",
            WHEEL3 + "stress 0 5 -1 = -1 | stress 0 5 3 = -1 | stress 0 5 MIN = -1 | stress 0 5 MAX = -1",
            WHEEL3 + "weight 0 0 = 10 | stress 0 5 0 = 5 | weight 0 9 = 9 | stress 0 5 0 = 5 | stress 0 5 2 = 2");
    }

    private static void fractions() {
        EDGES.edge("0 what is above, without its sign, 1 what is below (1, if it is 0), 2 its sign (0: it is 0; 1: above 0; 2: below).",
            WHEEL3 + "pull 1 0 = 1 | pull 1 1 = 3 | pull 1 2 = 1 | weight 0 0 = 10 | pull 1 0 = 0 | pull 1 1 = 1 | pull 1 2 = 0",
            WHEEL3 + "weight 0 -1 = 10 | pull 1 0 = 1 | pull 1 1 = 3 | pull 1 2 = 2 | weight 0 -9 = 8 | pull 1 0 = 3 | pull 1 1 = 1 | pull 1 2 = 2",
            WHEEL3 + "weight 0 6 = 10 | pull 1 0 = 2 | pull 1 1 = 1 | pull 1 2 = 1",
            FULL_FRAME + "stress 0 1 0 = 0 | stress 0 1 1 = 1 | stress 0 1 2 = 0",
            "tell <00,50,05;01,12,02> = 3 | pull 0 0 = 0 | pull 0 1 = 1 | pull 0 2 = 0",
            // Whole numbers, in a frame so small that all is above 1 from the first: ring bars 1, spokes -3.
            "tell <00,11,12,21;23,03,12,13,01,02> = 6 | pull 0 0 = 1 | pull 0 1 = 1 | pull 0 2 = 1 | pull 2 0 = 3 | pull 2 1 = 1 | pull 2 2 = 2 | pull 5 0 = 1",
            "tell <12,01,20,11;02,03,13,23,01,12> = 6 | pull 0 0 = 1 | pull 1 0 = 3 | pull 1 1 = 1 | pull 1 2 = 2 | pull 5 0 = 1 | pull 5 2 = 1");
    }

    private static void pull() {
        EDGES.edge("The number of BAR k in THE STRESS, a fraction. BAD.",
            WHEEL3 + "pull -1 0 = -1 | pull 6 0 = -1 | pull MIN 0 = -1 | pull MAX 0 = -1 | pull 5 0 = 5 | pull 0 0 = 1",
            WHEEL3 + "pull 0 -1 = -1 | pull 0 3 = -1 | pull 0 MIN = -1 | pull 0 MAX = -1 | pull 6 3 = -1",
            "pull 0 0 = -1 | tell <00,10> = 0 | pull 0 0 = -1 | bar 0 1 = 0 | pull 0 0 = 0 | pull 1 0 = -1");
        EDGES.edge("(those of S and more count for nothing)",
            WHEEL3 + "weight 1 9 = 9 | weight 8 9 = 9 | pull 0 0 = 1 | pull 5 0 = 5 | pull 5 1 = 3 | weight 0 0 = 10 | pull 0 0 = 0",
            FULL_FRAME + "weight 1 4 = 9 | pull 1 0 = 4 | weight 2 9 = 9 | pull 0 0 = 1 | pull 1 0 = 4 | out 0 = 8 | pull 0 0 = 1 | pull 1 0 = 0",
            "tell <00,50,05;01,12,02> = 3 | weight 0 9 = 10 | pull 0 0 = 0 | pull 2 2 = 0",
            "tell <00,50,05,11,22;01,12,02,03,13,23,34,14> = 8 | weight 0 0 = 10 | weight 1 -9 = 9 | pull 1 0 = 0 | bar 2 4 = 8 | pull 1 0 = 9 | pull 1 2 = 2");
    }

    private static void stiff() {
        EDGES.edge("STIFF: n is 2 or more, and BARS less S are 2 n less 3.",
            "count 3 = 0 | joint 0 0 = 0 | count 3 = 0 | joint 1 0 = 1 | count 3 = 0 | bar 0 1 = 0 | count 3 = 1 | joint 5 5 = 2 | count 3 = 0",
            "tell <00,50,05;01,12> = 2 | count 3 = 0 | bar 0 2 = 2 | count 3 = 1 | out 0 = 2 | count 3 = 0",
            "tell <00,10,20;01,12> = 2 | count 3 = 0",
            WHEEL3 + "count 3 = 1 | out 0 = 5 | count 3 = 1 | out 0 = 4 | count 3 = 0",
            STIFF9 + "count 3 = 1 | move 5 1 3 = 3 | count 1 = 9 | count 2 = 1 | count 3 = 0",
            FULL_FRAME + "count 3 = 0 | lose 5 = 9 | count 3 = 1",
            "tell <00,10,20,11;01,12,03,23> = 4 | count 3 = 0 | bar 1 3 = 4 | count 3 = 1");
    }

    private static void fail() {
        EDGES.edge("FAIL by c of 10 (0 .. 10)",
            WHEEL3 + "fail -1 0 = -1 | fail 11 0 = -1 | fail MIN 0 = -1 | fail MAX 0 = -1 | fail 0 0 = 1 | fail 0 1 = 1 | fail 10 0 = 0 | fail 10 1 = 1",
            "tell <00,10;01> = 1 | fail 1 0 = 9 | fail 1 1 = 10 | fail 2 0 = 4 | fail 2 1 = 5 | fail 5 0 = 1 | fail 5 1 = 2 | fail 9 0 = 1 | fail 9 1 = 10",
            STIFF9 + "fail 0 0 = 1 | fail 0 1 = 1 | fail 1 0 = 387420489 | fail 1 1 = 1000000000 | fail 9 0 = 1 | fail 9 1 = 1000000000 | fail 10 0 = 0 | fail 10 1 = 1",
            // Two stresses: 9 bars may fail alone, and 29 pairs (36 less the 7 whose numbers are alike).
            FULL_FRAME + "lose 5 = 9 | fail 0 0 = 1 | fail 0 1 = 1 | fail 10 0 = 0 | fail 10 1 = 1 | fail 5 0 = 39 | fail 5 1 = 512",
            FULL_FRAME + "lose 5 = 9 | fail 1 0 = 913547079 | fail 1 1 = 1000000000 | fail 9 0 = 2431 | fail 9 1 = 1000000000",
            FULL_FRAME + "lose 5 = 9 | fail 5 0 = 39 | out 8 = 8 | fail 5 0 = 7 | fail 5 1 = 256 | undo = 2 | fail 5 0 = 39");
        EDGES.edge("how likely the frame of all others (with all JOINTS) is STIFF.",
            FULL_FRAME + "fail 0 0 = 0 | fail 0 1 = 1 | fail 5 0 = 0 | fail 5 1 = 1",
            "fail 0 0 = 0 | fail 0 1 = 1 | joint 0 0 = 0 | fail 0 0 = 0 | joint 1 0 = 1 | fail 0 0 = 0 | fail 10 0 = 0 | fail 10 1 = 1",
            // 5 bars of a square with one diagonal: all are needed, all hold by 1/2 to the power of 5.
            "tell <00,50,55,05;01,12,23,03,02> = 5 | fail 5 0 = 1 | fail 5 1 = 32",
            // The wheel and a joint by 2 needed bars: 9^8 and 6 times 9^7, both by 10^8.
            "tell <00,50,05,11,55;01,12,02,03,13,23,14,24> = 8 | fail 1 0 = 14348907 | fail 1 1 = 20000000");
        EDGES.edge("FAIL: above (what 0), below (1), in lowest terms. BAD.",
            WHEEL3 + "fail 5 -1 = -1 | fail 5 2 = -1 | fail 5 MIN = -1 | fail 5 MAX = -1 | fail 5 0 = 7 | fail 5 1 = 64 | fail 11 2 = -1");
    }
}
