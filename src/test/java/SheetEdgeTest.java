/** The boundaries of SHEETS, of WHAT a row is, and of promises 29 to 34, a run for each sentence that names one. */
public final class SheetEdgeTest {
    private static final Edges EDGES = new Edges();
    private static final String WHEEL3 = "tell <00,50,05,11;01,12,02,03,13,23> = 6\n";
    private static final String FULL_FRAME = "tell <00,50,05,11,22,13;01,12,02,03,13,23,34,14,24> = 9\n";
    /** Of one bar no row but 0 is a stress: 0 is 13, what is above it 6, what is below it 2. */
    private static final String ONE_BAR = "tell <00,10;01> = 1\n";

    private SheetEdgeTest() {
    }

    public static void main(String[] args) {
        whatNumbers();
        whatBits();
        whatTheStress();
        what();
        film();
        filmOfNone();
        sheet();
        lanes();
        drop();
        item();
        lowestBits();
        copy();
        copyIndex();
        copyOverItself();
        orderOfAnswers();
        apartFromTheRest();
        EDGES.end(29, 34);
    }

    /** Puts numbers into a sheet from item i on. */
    private static String put(int sheet, int lane, int i, long... numbers) {
        StringBuilder run = new StringBuilder();
        for (int k = 0; k < numbers.length; k++) {
            run.append("item ").append(sheet).append(' ').append(lane).append(' ').append(i + k).append(' ').append(numbers[k]).append(" = 1\n");
        }
        return run.toString();
    }

    private static void whatNumbers() {
        EDGES.edge("WHAT a row of numbers (-99 .. 99), one for each BAR, is",
            ONE_BAR + "sheet 0 0 1 | item 0 0 0 99 | what 0 0 0 = 6 | item 0 0 0 100 | what 0 0 0 = -2 | item 0 0 0 -99 | what 0 0 0 = 2 | item 0 0 0 -100 | what 0 0 0 = -2",
            ONE_BAR + "sheet 0 1 1 | item 0 1 0 99 | what 0 1 0 = 6 | item 0 1 0 100 | what 0 1 0 = -2 | item 0 1 0 -99 | what 0 1 0 = 2 | item 0 1 0 -100 | what 0 1 0 = -2",
            ONE_BAR + "sheet 0 2 1 | item 0 2 0 99 | what 0 2 0 = 6 | item 0 2 0 100 | what 0 2 0 = -2 | item 0 2 0 MIN | what 0 2 0 = -2 | item 0 2 0 MAX | what 0 2 0 = -2",
            ONE_BAR + "sheet 0 3 1 | item 0 3 0 -99 | what 0 3 0 = 2 | item 0 3 0 -100 | what 0 3 0 = -2 | item 0 3 0 LMIN | what 0 3 0 = -2 | item 0 3 0 LMAX | what 0 3 0 = -2",
            // Only as many items as there are BARS are looked at: the ones on either side may be anything.
            WHEEL3 + "sheet 0 2 8 | item 0 2 0 100 | item 0 2 7 -100 | what 0 2 1 = 13 | what 0 2 0 = -2 | what 0 2 2 = -2",
            WHEEL3 + "sheet 0 2 6 | item 0 2 5 100 | what 0 2 0 = -2 | item 0 2 5 99 | what 0 2 0 = 4 | item 0 2 0 -100 | what 0 2 0 = -2 | item 0 2 0 -99 | what 0 2 0 = 0");
    }

    private static void whatBits() {
        EDGES.edge("0: it's a STRESS; 1: none is 0; 2: none is below 0",
            WHEEL3 + "sheet 0 0 6\n" + put(0, 0, 0, 3, 1, 3, -15, -5, -5) + "what 0 0 0 = 11 | item 0 0 5 -4 | what 0 0 0 = 2 | item 0 0 5 0 | what 0 0 0 = 0",
            WHEEL3 + "sheet 0 0 6\n" + put(0, 0, 0, 1, 1, 1, 1, 1, 1) + "what 0 0 0 = 6 | item 0 0 0 0 | what 0 0 0 = 4 | item 0 0 0 -1 | what 0 0 0 = 2 | item 0 0 5 0 | what 0 0 0 = 0",
            WHEEL3 + "sheet 0 0 6\n" + put(0, 0, 0, 1, 1, 1, 1, 1, 1) + "item 0 0 5 0 | what 0 0 0 = 4 | item 0 0 5 -1 | what 0 0 0 = 2",
            // A stress of the greatest numbers that a row may hold.
            WHEEL3 + "sheet 0 3 6\n" + put(0, 3, 0, 18, 6, 18, -90, -30, -30) + "what 0 3 0 = 11\n" + put(0, 3, 0, -18, -6, -18, 90, 30, 30) + "what 0 3 0 = 11",
            // Of no BARS none is 0 and none is below 0, and it's a stress.
            "sheet 0 0 0 | what 0 0 0 = 15 | joint 0 0 = 0 | what 0 0 0 = 15 | joint 1 0 = 1 | bar 0 1 = 0 | what 0 0 0 = -13",
            ONE_BAR + "sheet 0 0 1 | what 0 0 0 = 13 | item 0 0 0 1 | what 0 0 0 = 6 | item 0 0 0 -1 | what 0 0 0 = 2",
            // At rest by x alone, by y alone: no stress.
            "tell <00,01;01> = 1 | sheet 0 0 1 | item 0 0 0 1 | what 0 0 0 = 6 | tell <00,10;01> = 1 | what 0 0 0 = 6",
            "tell <00,22,40;01,12> = 2 | sheet 0 0 2\n" + put(0, 0, 0, 1, 1) + "what 0 0 0 = 6\n" + put(0, 0, 0, 1, -1) + "what 0 0 0 = 2");
    }

    private static void whatTheStress() {
        EDGES.edge("3: it's all of THE STRESS times one number (any fraction, 0 too).",
            WHEEL3 + "sheet 0 0 6 | what 0 0 0 = 13 | weight 0 0 = 10 | what 0 0 0 = 13\n" + put(0, 0, 0, 3, 1, 3, -15, -5, -5) + "what 0 0 0 = 3 | weight 0 -9 = 9 | what 0 0 0 = 11",
            WHEEL3 + "weight 0 7 = 10 | sheet 0 0 6\n" + put(0, 0, 0, -3, -1, -3, 15, 5, 5) + "what 0 0 0 = 11",
            // Two stresses: one of them is no part of THE STRESS, and 0 must stand where it is 0.
            FULL_FRAME + "sheet 0 0 9\n" + put(0, 0, 0, 1, 0, 1, -5, -2, -2, 1, 1, 1) + "what 0 0 0 = 9 | weight 0 0 = 10 | weight 1 2 = 9 | what 0 0 0 = 1",
            FULL_FRAME + "sheet 0 0 9\n" + put(0, 0, 0, 0, 1, 0, 0, 1, 1, -3, -3, -3) + "what 0 0 0 = 1 | weight 0 0 = 10 | weight 1 2 = 9 | what 0 0 0 = 9 | item 0 0 0 1 | what 0 0 0 = 0",
            FULL_FRAME + "weight 0 0 = 10 | weight 1 2 = 9 | sheet 0 0 9\n" + put(0, 0, 0, 0, 1, 0, 1, 1, 1, -3, -3, -3) + "what 0 0 0 = 0",
            ONE_BAR + "sheet 0 0 1 | item 0 0 0 5 | what 0 0 0 = 6 | weight 0 9 = 10 | what 0 0 0 = 6",
            // 0 where THE STRESS is 0, in the middle, at the end and at the beginning, and yet not alike.
            FULL_FRAME + "sheet 0 0 9\n" + put(0, 0, 0, 1, 0, 1, 1, 1, 1, 1, 1, 1) + "what 0 0 0 = 4",
            "tell <00,50,05,11,55;01,12,02,03,13,23,14,24> = 8 | sheet 0 0 8\n" + put(0, 0, 0, 1, 1, 1, 1, 1, 1, 0, 0) + "what 0 0 0 = 4\n" + put(0, 0, 0, 3, 1, 3, -15, -5, -5) + "what 0 0 0 = 9",
            "tell <00,50,05,11,55;14,24,01,12,02,03,13,23> = 8 | sheet 0 0 8\n" + put(0, 0, 2, 1, 1, 1, 1, 1, 1) + "what 0 0 0 = 4\n" + put(0, 0, 2, 3, 1, 3, -15, -5, -5) + "what 0 0 0 = 9");
    }

    private static void what() {
        EDGES.edge("WHAT as many items as there are BARS, of a SHEET taken as a row of a LANE, are from item i on. BAD; NULL; CAST; INDEX; NOT: an item is no such number.",
            WHEEL3 + "sheet 3 2 8 | what -1 2 0 = -1 | what 4 2 0 = -1 | what MIN 2 0 = -1 | what MAX 2 0 = -1 | what 3 2 0 = 13 | what 0 2 0 = -11",
            WHEEL3 + "sheet 3 3 8 | what 3 -1 0 = -1 | what 3 4 0 = -1 | what 3 MIN 0 = -1 | what 3 MAX 0 = -1 | what 3 0 0 = -12 | what 3 2 0 = -12 | what 3 3 0 = 13",
            WHEEL3 + "sheet 3 2 8 | what 3 2 -1 = -13 | what 3 2 0 = 13 | what 3 2 2 = 13 | what 3 2 3 = -13 | what 3 2 MIN = -13 | what 3 2 MAX = -13",
            WHEEL3 + "sheet 0 0 5 | what 0 0 0 = -13 | sheet 0 0 6 | what 0 0 0 = 13 | what 0 0 1 = -13 | sheet 0 0 0 | what 0 0 0 = -13",
            FULL_FRAME + "sheet 0 0 24 | what 0 0 15 = 13 | what 0 0 16 = -13 | what 0 0 24 = -13",
            // Without BARS: i up to how many items there are.
            "sheet 0 0 2 | what 0 0 -1 = -13 | what 0 0 0 = 15 | what 0 0 2 = 15 | what 0 0 3 = -13 | what 0 0 MIN = -13 | what 0 0 MAX = -13 | sheet 0 0 24 | what 0 0 24 = 15 | what 0 0 25 = -13",
            WHEEL3 + "sheet 0 2 7 | item 0 2 6 100 | what 0 2 2 = -13 | what 0 2 1 = -2 | what 0 1 1 = -12 | what 1 1 1 = -11 | what 1 4 1 = -1");
    }

    private static void film() {
        EDGES.edge("For each BAR the sign of its number in THE STRESS (-1, 0, 1) comes to a SHEET likewise: how many. BAD; NULL; CAST; INDEX",
            WHEEL3 + "sheet 3 2 8 | film -1 2 0 = -1 | film 4 2 0 = -1 | film MIN 2 0 = -1 | film MAX 2 0 = -1 | film 0 2 0 = -11 | film 3 2 0 = 6",
            WHEEL3 + "sheet 3 3 8 | film 3 -1 0 = -1 | film 3 4 0 = -1 | film 3 MIN 0 = -1 | film 3 MAX 0 = -1 | film 3 2 0 = -12 | film 3 0 0 = -12 | film 3 3 0 = 6",
            WHEEL3 + "sheet 0 0 8 | film 0 0 -1 = -13 | film 0 0 3 = -13 | film 0 0 MIN = -13 | film 0 0 MAX = -13 | film 0 0 2 = 6 | film 0 0 0 = 6",
            WHEEL3 + "sheet 0 0 5 | film 0 0 0 = -13 | sheet 0 0 6 | film 0 0 1 = -13 | film 0 0 0 = 6 | sheet 0 0 0 | film 0 0 0 = -13",
            FULL_FRAME + "sheet 0 0 24 | film 0 0 16 = -13 | film 0 0 15 = 9",
            // Signs alone, not numbers; those of the items beside stay.
            ONE_BAR + "sheet 0 0 3\n" + put(0, 0, 0, 7, 7, 7) + "film 0 0 1 = 1 | what 0 0 0 = 6 | what 0 0 1 = 13 | what 0 0 2 = 6",
            WHEEL3 + "sheet 0 0 8\n" + put(0, 0, 0, 0, 9, 9, 9, 9, 9, 9, 0) + "film 0 0 1 = 6 | " + ONE_BAR
                + "what 0 0 0 = 13 | what 0 0 1 = 6 | what 0 0 2 = 6 | what 0 0 3 = 6 | what 0 0 4 = 2 | what 0 0 5 = 2 | what 0 0 6 = 2 | what 0 0 7 = 13",
            // A wheel whose ring is 1 and whose spokes are -3, so that one of each tells what a sign is put as.
            "tell <00,21,12,11;01,12,02,03,13,23> = 6 | sheet 0 0 6 | film 0 0 0 = 6\n" + put(0, 0, 3, -3, -3, -3) + "what 0 0 0 = 11 | weight 0 -9 = 10 | film 0 0 0 = 6\n"
                + put(0, 0, 3, 3, 3, 3) + "what 0 0 0 = 11 | film 0 0 0 = 6\n" + put(0, 0, 0, 0, 0, 0) + "what 0 0 0 = 4",
            WHEEL3 + "weight 0 0 = 10 | sheet 0 3 6\n" + put(0, 3, 0, 1, 1, 1, 1, 1, 1) + "film 0 3 0 = 6 | what 0 3 0 = 13");
    }

    private static void filmOfNone() {
        EDGES.edge("(of none, too: i below 0, or above how many there are)",
            "sheet 0 0 2 | film 0 0 -1 = -13 | film 0 0 0 = 0 | film 0 0 1 = 0 | film 0 0 2 = 0 | film 0 0 3 = -13 | film 0 0 MIN = -13 | film 0 0 MAX = -13",
            "sheet 0 0 0 | film 0 0 0 = 0 | film 0 0 1 = -13 | film 0 0 -1 = -13 | sheet 0 0 24 | film 0 0 24 = 0 | film 0 0 25 = -13",
            "tell <00,10> = 0 | sheet 1 3 1 | item 1 3 0 5 | film 1 3 0 = 0 | film 1 3 1 = 0 | film 1 3 2 = -13 | bar 0 1 = 0 | what 1 3 0 = 6 | film 1 3 1 = -13");
    }

    private static void sheet() {
        EDGES.edge("A SHEET holds a new row of a LANE: n. BAD: also n above 24; SIZE: n below 0.",
            "sheet -1 0 1 = -1 | sheet 4 0 1 = -1 | sheet MIN 0 1 = -1 | sheet MAX 0 1 = -1 | sheet 0 0 1 = 1 | sheet 3 0 1 = 1",
            "sheet 0 -1 1 = -1 | sheet 0 4 1 = -1 | sheet 0 MIN 1 = -1 | sheet 0 MAX 1 = -1 | sheet 0 3 1 = 1",
            "sheet 0 0 25 = -1 | sheet 0 0 MAX = -1 | sheet 0 0 -1 = -14 | sheet 0 0 MIN = -14 | drop 0 = -11 | sheet 0 0 24 = 24 | sheet 1 0 0 = 0 | drop 1 = 0 | drop 0 = 24",
            "sheet 4 0 -1 = -1 | sheet 0 4 -1 = -1 | sheet -1 0 -1 = -1 | sheet 0 -1 -1 = -1 | sheet 4 4 25 = -1",
            // What is refused leaves the row that is there; what is not, does away with it.
            "sheet 0 1 3\n" + put(0, 1, 0, 5, -5, 5) + "sheet 0 2 -1 = -14 | sheet 0 2 25 = -1 | sheet 0 4 3 = -1 | item 0 1 2 5 = 1 | sheet 0 1 3 = 3 | " + ONE_BAR + "what 0 1 0 = 13 | what 0 1 1 = 13 | what 0 1 2 = 13",
            "sheet 0 1 24 | item 0 1 23 5 = 1 | sheet 0 1 2 = 2 | item 0 1 2 5 = -13 | sheet 0 1 24 = 24 | " + ONE_BAR + "what 0 1 23 = 13");
    }

    private static void lanes() {
        EDGES.edge("or a row of a LANE: 0 bytes, 1 shorts, 2 ints, 3 longs, of 0 to 24 items.",
            "sheet 0 0 24 | sheet 1 1 24 | sheet 2 2 24 | sheet 3 3 24 | item 0 0 23 1 = 1 | item 1 1 23 1 = 1 | item 2 2 23 1 = 1 | item 3 3 23 1 = 1"
                + " | item 0 0 24 1 = -13 | item 1 1 24 1 = -13 | item 2 2 24 1 = -13 | item 3 3 24 1 = -13",
            "sheet 0 0 0 | sheet 1 1 0 | sheet 2 2 0 | sheet 3 3 0 | item 0 0 0 1 = -13 | item 1 1 0 1 = -13 | item 2 2 0 1 = -13 | item 3 3 0 1 = -13");
        EDGES.edge("CAST -12 (of SHEETS another LANE)",
            "sheet 0 0 1 | item 0 0 0 1 = 1 | item 0 1 0 1 = -12 | item 0 2 0 1 = -12 | item 0 3 0 1 = -12",
            "sheet 0 1 1 | item 0 0 0 1 = -12 | item 0 1 0 1 = 1 | item 0 2 0 1 = -12 | item 0 3 0 1 = -12",
            "sheet 0 2 1 | item 0 0 0 1 = -12 | item 0 1 0 1 = -12 | item 0 2 0 1 = 1 | item 0 3 0 1 = -12",
            "sheet 0 3 1 | item 0 0 0 1 = -12 | item 0 1 0 1 = -12 | item 0 2 0 1 = -12 | item 0 3 0 1 = 1 | sheet 0 0 1 | item 0 3 0 1 = -12 | item 0 0 0 1 = 1");
    }

    private static void drop() {
        EDGES.edge("A SHEET holds nothing: how many items it had. BAD; NULL.",
            "drop -1 = -1 | drop 4 = -1 | drop MIN = -1 | drop MAX = -1 | drop 0 = -11 | drop 3 = -11",
            "sheet 0 0 0 | sheet 3 3 24 | drop 0 = 0 | drop 0 = -11 | drop 3 = 24 | drop 3 = -11 | sheet 3 0 1 = 1 | drop 3 = 1",
            "sheet 1 1 3 | item 1 1 0 5 | drop 1 = 3 | item 1 1 0 5 = -11 | what 1 1 0 = -11 | film 1 1 0 = -11 | copy 1 0 1 0 0 = -11 | sheet 1 1 3 = 3 | " + ONE_BAR + "what 1 1 0 = 13");
    }

    private static void item() {
        EDGES.edge("Item i of a SHEET, taken as a row of a LANE, becomes v, its lowest bits (with its sign): 1. BAD; NULL; CAST; INDEX.",
            "sheet 3 2 3 | item -1 2 0 5 = -1 | item 4 2 0 5 = -1 | item MIN 2 0 5 = -1 | item MAX 2 0 5 = -1 | item 0 2 0 5 = -11 | item 3 2 0 5 = 1",
            "sheet 3 3 3 | item 3 -1 0 5 = -1 | item 3 4 0 5 = -1 | item 3 MIN 0 5 = -1 | item 3 MAX 0 5 = -1 | item 3 2 0 5 = -12 | item 3 3 0 5 = 1",
            "sheet 0 0 3 | item 0 0 -1 5 = -13 | item 0 0 3 5 = -13 | item 0 0 MIN 5 = -13 | item 0 0 MAX 5 = -13 | item 0 0 0 5 = 1 | item 0 0 2 5 = 1 | " + ONE_BAR + "what 0 0 0 = 6 | what 0 0 1 = 13 | what 0 0 2 = 6");
    }

    private static void lowestBits() {
        String[] runs = new String[4];
        for (int lane = 0; lane < 4; lane++) {
            int bits = 8 << lane;
            StringBuilder run = new StringBuilder(ONE_BAR + "sheet 0 " + lane + " 1\n");
            String what = "what 0 " + lane + " 0 = ";
            // All bits are -1; the highest alone and all but it are far from 0, both of them no such number.
            long high = 1L << bits - 1;
            run.append(put(0, lane, 0, -1)).append(what).append("2\n");
            run.append(put(0, lane, 0, high)).append(what).append("-2\n");
            run.append(put(0, lane, 0, high - 1)).append(what).append("-2\n");
            if (bits < 64) {
                long one = 1L << bits;
                run.append(put(0, lane, 0, one)).append(what).append("13\n");
                run.append(put(0, lane, 0, one - 1)).append(what).append("2\n");
                run.append(put(0, lane, 0, one + 99)).append(what).append("6\n");
                run.append(put(0, lane, 0, one - 99)).append(what).append("2\n");
                run.append(put(0, lane, 0, one + 100)).append(what).append("-2\n");
                run.append(put(0, lane, 0, one - 100)).append(what).append("-2\n");
                run.append(put(0, lane, 0, -one)).append(what).append("13\n");
                run.append(put(0, lane, 0, Long.MIN_VALUE)).append(what).append("13\n");
                run.append(put(0, lane, 0, Long.MAX_VALUE)).append(what).append("2\n");
            }
            if (bits > 8) {
                run.append(put(0, lane, 0, 1L << bits / 2)).append(what).append("-2\n");
            }
            runs[lane] = run.toString();
        }
        EDGES.edge("becomes v, its lowest bits (with its sign)", runs);
    }

    private static void copy() {
        EDGES.edge("BAD; NULL (either); CAST: of unlike LANES; INDEX",
            "sheet 0 0 3 | sheet 3 0 3 | copy -1 0 3 0 1 = -1 | copy 4 0 3 0 1 = -1 | copy 0 0 -1 0 1 = -1 | copy 0 0 4 0 1 = -1 | copy 0 0 3 0 1 = 1 | copy 3 0 0 0 1 = 1",
            "sheet 0 0 3 | sheet 3 0 3 | copy MIN 0 3 0 1 = -1 | copy MAX 0 3 0 1 = -1 | copy 0 0 MIN 0 1 = -1 | copy 0 0 MAX 0 1 = -1",
            "sheet 0 0 3 | copy 0 0 1 0 1 = -11 | copy 1 0 0 0 1 = -11 | copy 1 0 2 0 1 = -11 | copy 1 0 1 0 0 = -11 | copy 0 0 1 0 0 = -11 | copy 0 0 0 0 0 = 0",
            "sheet 0 0 3 | sheet 1 1 3 | sheet 2 2 3 | sheet 3 3 3 | copy 0 0 1 0 1 = -12 | copy 1 0 0 0 1 = -12 | copy 2 0 3 0 1 = -12 | copy 3 0 2 0 1 = -12 | copy 0 0 3 0 0 = -12 | copy 1 0 2 0 1 = -12");
    }

    private static void copyIndex() {
        String two = "sheet 0 0 3 | sheet 1 0 5\n" + put(0, 0, 0, 1, -1, 1);
        EDGES.edge("(n below 0, too; of n 0, too, if i or j is below 0 or above how many there are)",
            two + "copy 0 0 1 0 -1 = -13 | copy 0 0 1 0 MIN = -13 | copy 0 0 1 0 4 = -13 | copy 0 0 1 0 MAX = -13 | copy 0 0 1 0 3 = 3",
            two + "copy 0 -1 1 0 1 = -13 | copy 0 MIN 1 0 1 = -13 | copy 0 MAX 1 0 1 = -13 | copy 0 3 1 0 1 = -13 | copy 0 1 1 0 3 = -13 | copy 0 1 1 0 2 = 2 | copy 0 2 1 0 1 = 1",
            two + "copy 0 0 1 -1 1 = -13 | copy 0 0 1 MIN 1 = -13 | copy 0 0 1 MAX 1 = -13 | copy 0 0 1 5 1 = -13 | copy 0 0 1 3 3 = -13 | copy 0 0 1 2 3 = 3 | copy 0 0 1 4 1 = 1",
            two + "copy 0 -1 1 0 0 = -13 | copy 0 4 1 0 0 = -13 | copy 0 3 1 0 0 = 0 | copy 0 0 1 -1 0 = -13 | copy 0 0 1 6 0 = -13 | copy 0 0 1 5 0 = 0 | copy 0 3 1 5 0 = 0",
            two + "copy 0 MIN 1 0 0 = -13 | copy 0 MAX 1 0 0 = -13 | copy 0 0 1 MIN 0 = -13 | copy 0 0 1 MAX 0 = -13 | copy 0 MAX 1 0 MAX = -13 | copy 0 0 1 MAX MAX = -13 | copy 0 MIN 1 0 MIN = -13",
            // The longer one is looked at by itself, whichever it is.
            two + "copy 1 0 0 0 4 = -13 | copy 1 3 0 0 3 = -13 | copy 1 2 0 0 3 = 3 | copy 1 5 0 3 0 = 0 | copy 1 6 0 0 0 = -13 | copy 1 0 0 4 0 = -13",
            "sheet 0 0 0 | sheet 1 0 0 | copy 0 0 1 0 0 = 0 | copy 0 0 1 0 1 = -13 | copy 0 1 1 0 0 = -13 | copy 0 0 1 1 0 = -13 | sheet 2 3 24 | copy 2 0 2 0 24 = 24 | copy 2 0 2 0 25 = -13 | copy 2 24 2 24 0 = 0");
    }

    private static void copyOverItself() {
        String row = ONE_BAR + "sheet 0 0 4 | sheet 1 0 4\n" + put(0, 0, 0, 1, -1, 0, 1);
        EDGES.edge("n items of a SHEET from i on come to another one (or the same) from j on, as if all were taken ahead: n.",
            row + "copy 0 0 0 1 3 = 3 | what 0 0 0 = 6 | what 0 0 1 = 6 | what 0 0 2 = 2 | what 0 0 3 = 13",
            row + "copy 0 1 0 0 3 = 3 | what 0 0 0 = 2 | what 0 0 1 = 13 | what 0 0 2 = 6 | what 0 0 3 = 6",
            row + "copy 0 0 0 0 4 = 4 | what 0 0 0 = 6 | what 0 0 1 = 2 | what 0 0 2 = 13 | what 0 0 3 = 6",
            row + "copy 0 0 1 0 4 = 4 | item 0 0 0 0 = 1 | what 1 0 0 = 6 | what 1 0 1 = 2 | what 1 0 2 = 13 | what 1 0 3 = 6",
            row + "copy 0 0 1 2 2 = 2 | what 1 0 0 = 13 | what 1 0 1 = 13 | what 1 0 2 = 6 | what 1 0 3 = 2 | copy 0 0 1 0 0 = 0 | what 1 0 0 = 13");
    }

    private static void orderOfAnswers() {
        EDGES.edge("(NULL, CAST, INDEX, SIZE in this order)",
            WHEEL3 + "what 0 4 -1 = -1 | what 0 0 -1 = -11 | sheet 0 1 3 | what 0 0 -1 = -12 | what 0 1 -1 = -13 | what 4 0 -1 = -1",
            WHEEL3 + "film 0 4 -1 = -1 | film 0 0 -1 = -11 | sheet 0 1 3 | film 0 0 -1 = -12 | film 0 1 -1 = -13 | film 4 0 -1 = -1",
            "item 0 4 -1 5 = -1 | item 0 0 -1 5 = -11 | sheet 0 1 3 | item 0 0 -1 5 = -12 | item 0 1 -1 5 = -13 | item 4 0 -1 5 = -1",
            "copy 0 -1 4 -1 -1 = -1 | copy 0 -1 1 -1 -1 = -11 | sheet 0 0 3 | copy 0 -1 1 -1 -1 = -11 | copy 1 -1 0 -1 -1 = -11 | sheet 1 1 3 | copy 0 -1 1 -1 -1 = -12 | sheet 1 0 3 | copy 0 -1 1 -1 -1 = -13 | copy 4 0 1 0 0 = -1");
    }

    private static void apartFromTheRest() {
        EDGES.edge("All but SHEETS, THE TAPE is kept as an IMAGE",
            "sheet 0 0 2\n" + put(0, 0, 0, 5, -5) + "image = 1 | item 0 0 0 0 = 1 | joint 0 0 = 0 | undo = 0 | restore = 1 | " + ONE_BAR + "what 0 0 0 = 13 | what 0 0 1 = 2",
            ONE_BAR + "sheet 0 0 2 | item 0 0 0 5 | sheet 1 1 3 | lose 0 = 0 | undo = 1 | what 0 0 0 = 6 | drift 3 | drop 1 = 3 | drop 0 = 2");
    }
}
