/** The boundaries of part 2 of the terms and of promises 14 to 21, a run for each sentence that names one. */
public final class FaceEdgeTest {
    private static final Edges EDGES = new Edges();
    private static final String WHEEL3 = "tell <00,50,05,11;01,12,02,03,13,23> = 6\n";
    /** A ring of four around (2,2), whose bars go just where x, y grow and fall: ring bars are 1, spokes -2. */
    private static final String WHEEL4 = "tell <02,20,42,24,22;01,12,23,03,04,14,24,34> = 8\n";
    private static final String APART = "tell <00,10,05,15;01,23> = 2\n";
    private static final String PATH6 = "tell <00,10,20,30,40,50;01,12,23,34,45> = 5\n";
    /** A wheel and a joint alone: it has stresses, but is not whole. */
    private static final String WITH_ONE_ALONE = "tell <00,50,05,11,55;01,12,02,03,13,23> = 6\n";

    /** WHEEL3, told so that its first half bar is one of OUTER, and so that its third is. */
    private static final String FLIPPED = "tell <50,00,05,11;01,12,02,03,13,23> = 6\n";
    private static final String OUTER_IS_2 = "tell <50,00,05,11;03,01,12,02,13,23> = 6\n";
    private static final String TWO_STRESSES = "tell <00,50,05,11,22;01,12,02,03,13,23,34,14,24> = 9\n";
    /** A triangle within another: the bars between are 1, those without -1/5, those within 1/2. */
    private static final String PRISM = "tell <00,50,05,11,31,13;03,14,25,01,12,02,34,45,35> = 9\n";

    private FaceEdgeTest() {
    }

    public static void main(String[] args) {
        next();
        turning();
        faces();
        areas();
        round();
        beside();
        whole();
        outer();
        point();
        plane();
        height();
        corner();
        polygon();
        EDGES.end(14, 21);
    }

    private static void next() {
        EDGES.edge("NEXT of a HALF BAR. BAD.",
            "next 0 = -1 | next -1 = -1 | joint 0 0 = 0 | joint 1 0 = 1 | next 0 = -1 | bar 0 1 = 0 | next 0 = 1 | next 1 = 0 | next 2 = -1",
            WHEEL3 + "next -1 = -1 | next 0 = 8 | next 11 = 5 | next 12 = -1 | next MIN = -1 | next MAX = -1",
            PATH6 + "next 9 = 7 | next 10 = -1",
            "tell <00,50,05,11,22,13;01,12,02,03,13,23,34,14,24> = 9 | next 17 = 10 | next 18 = -1");
        EDGES.edge("2 k goes along BAR k from a to b, 2 k and 1 from b to a, each is the other's WAY BACK.",
            "tell <00,10,20;12,01> = 2 | next 2 = 0 | next 0 = 1 | next 1 = 3 | next 3 = 2");
    }

    private static void turning() {
        EDGES.edge("of all HALF BARS from v the first one that is met turning clockwise from its WAY BACK on (that itself, if there is no other).",
            WHEEL4 + "next 12 = 11 | next 10 = 9 | next 8 = 15 | next 14 = 13",
            "tell <22,42> = 0 | bar 0 1 = 0 | next 1 = 0 | next 0 = 1",
            "tell <22,42,02;01,02> = 2 | next 1 = 2 | next 3 = 0 | next 2 = 3",
            "tell <22,42,41,43;01,02,03> = 3 | next 1 = 2 | next 3 = 4 | next 5 = 0",
            "tell <22,02,01,03;01,02,03> = 3 | next 1 = 4 | next 3 = 0 | next 5 = 2");
        EDGES.edge("A FACE: HALF BARS each of which is NEXT of another one of them, all around.",
            "tell <00,10;01> = 1 | count 5 = 1 | face 0 0 = 2 | round 0 0 = 0 | round 0 1 = 1 | round 0 2 = -1",
            APART + "count 5 = 2 | face 0 0 = 2 | face 1 0 = 2");
    }

    private static void faces() {
        EDGES.edge("FACES are numbered by their least HALF BARS.",
            WHEEL3 + "face 0 2 = 0 | face 1 2 = 1 | face 2 2 = 2 | face 3 2 = 5 | face 4 2 = -1",
            APART + "face 0 2 = 0 | face 1 2 = 2 | face 2 2 = -1");
        EDGES.edge("Of a FACE: 0 how many HALF BARS, 1 AREA without its sign, 2 its least HALF BAR. BAD.",
            "face 0 0 = -1 | joint 0 0 = 0 | joint 1 0 = 1 | face 0 0 = -1 | bar 0 1 = 0 | face 0 0 = 2 | face 1 0 = -1",
            WHEEL3 + "face -1 0 = -1 | face 4 0 = -1 | face MIN 0 = -1 | face MAX 0 = -1 | face 3 0 = 3",
            WHEEL3 + "face 0 -1 = -1 | face 0 3 = -1 | face 0 MIN = -1 | face 0 MAX = -1 | face 4 3 = -1",
            PATH6 + "face 0 0 = 10 | face 1 0 = -1");
        EDGES.edge("4 whether it's WHOLE (1, 0), 5 FACES, 6 OUTER (NONE)",
            "count 5 = 0 | joint 0 0 = 0 | joint 5 5 = 1 | count 5 = 0 | bar 0 1 = 0 | count 5 = 1 | out 0 = 0 | count 5 = 0",
            "tell <00,50,05;01,12> = 2 | count 5 = 1 | bar 0 2 = 2 | count 5 = 2",
            "tell <00,50,05,11,22,13;01,12,02,03,13,23,34,14,24> = 9 | count 5 = 6 | face 5 0 = 3 | face 6 0 = -1",
            // Two triangles apart: each has an inside, and an outside of its own.
            "tell <00,10,01,55,54,45;01,12,02,34,45,35> = 6 | count 5 = 4 | count 6 = -4 | face 3 1 = 1 | face 4 0 = -1");
    }

    private static void areas() {
        EDGES.edge("(twice what it measures, above 0 if it goes round counter-clockwise)",
            "tell <00,50,55,05;01,12,23,03> = 4 | face 0 1 = 50 | face 1 1 = 50 | face 0 2 = 0 | count 6 = 1",
            "tell <00,05,55,50;01,12,23,03> = 4 | face 0 1 = 50 | face 1 1 = 50 | face 0 2 = 0 | count 6 = 0",
            "tell <44,54,45;01,12,02> = 3 | face 0 1 = 1 | face 1 1 = 1 | count 6 = 1",
            PATH6 + "face 0 1 = 0 | count 6 = 0",
            // A bar that hangs into a face is walked there and back and measures nothing.
            "tell <00,50,05,11;01,12,02,03> = 4 | face 0 0 = 5 | face 0 1 = 25 | face 1 0 = 3 | face 1 1 = 25");
    }

    private static void round() {
        EDGES.edge("HALF BAR i (0 on) of a FACE, from the least one on, each NEXT of the one ahead. BAD.",
            "round 0 0 = -1 | joint 0 0 = 0 | round 0 0 = -1",
            WHEEL3 + "round 3 -1 = -1 | round 3 0 = 5 | round 3 1 = 6 | round 3 2 = 11 | round 3 3 = -1 | round 4 0 = -1 | round -1 0 = -1",
            WHEEL3 + "round MIN 0 = -1 | round MAX 0 = -1 | round 0 MIN = -1 | round 0 MAX = -1",
            PATH6 + "round 0 4 = 8 | round 0 5 = 9 | round 0 9 = 1 | round 0 10 = -1 | round 1 0 = -1",
            APART + "round 1 0 = 2 | round 1 1 = 3 | round 1 2 = -1 | round 2 0 = -1");
    }

    private static void beside() {
        EDGES.edge("The FACE that a HALF BAR is of. BAD.",
            "beside 0 = -1 | joint 0 0 = 0 | joint 1 0 = 1 | beside 0 = -1 | bar 0 1 = 0 | beside 0 = 0 | beside 1 = 0 | beside 2 = -1",
            WHEEL3 + "beside -1 = -1 | beside 0 = 0 | beside 11 = 3 | beside 12 = -1 | beside MIN = -1 | beside MAX = -1",
            APART + "beside 1 = 0 | beside 2 = 1 | beside 3 = 1 | beside 4 = -1");
    }

    private static void whole() {
        EDGES.edge("the frame is WHOLE: there is a BAR, and each JOINT comes to each other one by BARS.",
            "count 4 = 0 | joint 0 0 = 0 | count 4 = 0 | joint 1 0 = 1 | count 4 = 0 | bar 0 1 = 0 | count 4 = 1 | joint 5 5 = 2 | count 4 = 0 | bar 2 0 = 1 | count 4 = 1",
            PATH6 + "count 4 = 1 | out 2 = 4 | count 4 = 0 | lose 5 = 3 | count 4 = 0",
            PATH6 + "lose 5 = 4 | count 4 = 1 | lose 0 = 3 | count 4 = 1 | lose 1 = 1 | count 4 = 0 | lose 0 = 1 | count 4 = 1",
            // The way from joint 0 to joint 1 goes by the last joints first.
            "tell <00,50,40,30,20,10;12,23,34,45,05> = 5 | count 4 = 1",
            APART + "count 4 = 0 | bar 1 2 = 2 | count 4 = 1",
            "tell <55,00,10;12> = 1 | count 4 = 0 | lose 0 = 1 | count 4 = 1");
    }

    private static void outer() {
        EDGES.edge("OUTER: the one FACE whose AREA is not above 0.",
            WHEEL3 + "count 6 = 1 | face 1 1 = 25 | joint 5 5 = 4 | count 6 = -4 | bar 4 1 = 6 | count 6 = 1",
            "count 6 = -4 | joint 0 0 = 0 | count 6 = -4 | joint 1 0 = 1 | count 6 = -4 | bar 0 1 = 0 | count 6 = 0",
            PATH6 + "count 6 = 0 | face 0 1 = 0",
            APART + "count 6 = -4");
    }

    private static void point() {
        EDGES.edge("Of the POINT of a FACE x (axis 0), y (1), a fraction. BAD; NONE: it's not WHOLE.",
            WHEEL3 + "point -1 0 0 = -1 | point 4 0 0 = -1 | point MIN 0 0 = -1 | point MAX 0 0 = -1 | point 3 1 0 = 5 | point 3 1 2 = 2",
            WHEEL3 + "point 0 -1 0 = -1 | point 0 2 0 = -1 | point 0 MIN 0 = -1 | point 0 MAX 0 = -1 | point 0 0 0 = 5 | point 0 1 0 = 0",
            WHEEL3 + "point 0 0 -1 = -1 | point 0 0 3 = -1 | point 0 0 MIN = -1 | point 0 0 MAX = -1 | point 0 0 1 = 1 | point 0 0 2 = 1",
            "point 0 0 0 = -1 | joint 0 0 = 0 | joint 1 0 = 1 | point 0 0 0 = -1 | bar 0 1 = 0 | point 0 0 0 = 0 | point 0 0 1 = 1 | point 1 0 0 = -1",
            APART + "point 0 0 0 = -4 | point 1 1 2 = -4 | point 2 0 0 = -1 | point -1 0 0 = -1 | point 1 2 0 = -1 | point 1 -1 0 = -1 | point 1 0 3 = -1 | point 1 0 -1 = -1",
            WITH_ONE_ALONE + "point 0 0 0 = -4 | point 3 1 2 = -4 | point 4 0 0 = -1 | lose 4 = 6 | point 0 0 0 = 5");
        EDGES.edge("that of OUTER is 0, 0",
            WHEEL3 + "count 6 = 1 | point 1 0 0 = 0 | point 1 0 1 = 1 | point 1 0 2 = 0 | point 1 1 0 = 0 | point 1 1 1 = 1 | point 1 1 2 = 0",
            PATH6 + "point 0 0 0 = 0 | point 0 0 1 = 1 | point 0 1 0 = 0 | point 0 1 2 = 0",
            // OUTER may be FACE 0, or a FACE that was another one ahead.
            FLIPPED + "count 6 = 0 | point 0 0 0 = 0 | point 0 1 0 = 0 | point 1 0 0 = 5 | point 1 0 2 = 1 | point 1 1 0 = 0 | height 3 0 = 5",
            WHEEL3 + "point 0 0 0 = 5 | point 2 0 0 = 5 | " + OUTER_IS_2 + "count 6 = 2 | point 2 0 0 = 0 | point 2 1 0 = 0 | plane 2 0 0 = 0 | plane 2 1 0 = 0 | plane 2 2 0 = 0",
            WHEEL3 + "point 0 0 0 = 5 | " + FLIPPED + "point 0 0 0 = 0 | plane 0 1 0 = 0");
        EDGES.edge("for each HALF BAR the POINT of its FACE is that of the FACE of its WAY BACK, its FORCE added.",
            WHEEL3 + "weight 0 0 = 10 | point 0 0 0 = 0 | point 0 0 1 = 1 | point 0 0 2 = 0 | weight 0 -9 = 9 | point 0 0 0 = 45 | point 0 0 2 = 2");
    }

    private static void plane() {
        EDGES.edge("Of the plane of a FACE A (0), B (1), C (2), a fraction. BAD; NONE: it's not WHOLE.",
            WHEEL3 + "plane -1 0 0 = -1 | plane 4 0 0 = -1 | plane MIN 0 0 = -1 | plane MAX 0 0 = -1 | plane 3 0 0 = 5 | plane 3 0 2 = 1",
            WHEEL3 + "plane 2 -1 0 = -1 | plane 2 3 0 = -1 | plane 2 MIN 0 = -1 | plane 2 MAX 0 = -1 | plane 2 0 0 = 5 | plane 2 2 0 = 25",
            WHEEL3 + "plane 2 2 -1 = -1 | plane 2 2 3 = -1 | plane 2 2 MIN = -1 | plane 2 2 MAX = -1 | plane 2 2 1 = 3 | plane 2 2 2 = 1",
            "plane 0 0 0 = -1 | joint 0 0 = 0 | joint 1 0 = 1 | plane 0 0 0 = -1 | bar 0 1 = 0 | plane 0 2 0 = 0 | plane 0 2 1 = 1 | plane 1 0 0 = -1",
            APART + "plane 0 0 0 = -4 | plane 1 2 2 = -4 | plane 2 0 0 = -1 | plane -1 0 0 = -1 | plane 1 3 0 = -1 | plane 1 -1 0 = -1 | plane 1 0 3 = -1 | plane 1 0 -1 = -1",
            WITH_ONE_ALONE + "plane 0 1 0 = -4 | plane 3 2 2 = -4 | plane 4 0 0 = -1 | lose 4 = 6 | plane 0 1 0 = 5");
        EDGES.edge("A, B, C of OUTER are 0",
            WHEEL3 + "plane 1 0 0 = 0 | plane 1 0 1 = 1 | plane 1 1 0 = 0 | plane 1 1 2 = 0 | plane 1 2 0 = 0 | plane 1 2 1 = 1 | plane 1 2 2 = 0",
            PATH6 + "plane 0 0 0 = 0 | plane 0 1 0 = 0 | plane 0 2 0 = 0 | plane 0 2 1 = 1");
        EDGES.edge("and both have the same z at both its JOINTS.",
            // The inner triangle is FACE 4: level, and 1 below.
            PRISM + "face 4 1 = 4 | face 4 0 = 3 | plane 4 0 0 = 0 | plane 4 1 0 = 0 | plane 4 2 0 = 1 | plane 4 2 1 = 1 | plane 4 2 2 = 2",
            // FACE 0 goes up from bar 0 by B, 5 times 2; FACE 2 from bar 1 by A and B, both -5 times -3, with C 25 times -3.
            TWO_STRESSES + "weight 0 2 = 10 | weight 1 -3 = 9 | plane 0 0 0 = 0 | plane 0 1 0 = 10 | plane 0 1 2 = 1 | plane 0 2 0 = 0 | plane 2 0 0 = 15 | plane 2 0 2 = 1 | plane 2 1 0 = 15 | plane 2 1 2 = 1 | plane 2 2 0 = 75 | plane 2 2 2 = 2");
    }

    private static void height() {
        EDGES.edge("HEIGHT of a JOINT, a fraction. BAD; NONE: it's not WHOLE.",
            WHEEL3 + "height -1 0 = -1 | height 4 0 = -1 | height MIN 0 = -1 | height MAX 0 = -1 | height 3 0 = 5 | height 3 1 = 1 | height 3 2 = 1",
            WHEEL3 + "height 3 -1 = -1 | height 3 3 = -1 | height 3 MIN = -1 | height 3 MAX = -1 | height 0 0 = 0 | height 0 1 = 1 | height 0 2 = 0",
            "height 0 0 = -1 | joint 0 0 = 0 | height 0 0 = -4 | height 1 0 = -1 | height 0 3 = -1 | joint 1 0 = 1 | height 1 2 = -4 | bar 0 1 = 0 | height 1 0 = 0 | height 1 1 = 1",
            APART + "height 3 0 = -4 | height 4 0 = -1 | height -1 0 = -1 | height 0 3 = -1 | height 0 -1 = -1",
            WITH_ONE_ALONE + "height 3 0 = -4 | height 4 0 = -4 | height 5 0 = -1 | lose 4 = 6 | height 3 0 = 5 | height 4 0 = -1",
            // Bar 0 is 2 and lifts joint 3 by 5 times that; bar 1 is -3 and lifts joint 4 likewise.
            TWO_STRESSES + "weight 0 2 = 10 | weight 1 -3 = 9 | height 0 0 = 0 | height 1 0 = 0 | height 2 0 = 0 | height 3 0 = 10 | height 3 2 = 1 | height 4 0 = 15 | height 4 2 = 2",
            // An inner triangle that no bar parts from OUTER by itself: all of it goes down by 1.
            PRISM + "height 0 0 = 0 | height 2 0 = 0 | height 3 0 = 1 | height 3 2 = 2 | height 4 0 = 1 | height 4 2 = 2 | height 5 0 = 1 | height 5 2 = 2",
            // A free end within a face: 25/3 less 5/3 for each of x and y, at (2,2).
            "tell <22,00,50,05,11;04,12,23,13,14,24,34> = 7 | height 0 0 = 5 | height 0 1 = 3 | height 0 2 = 1 | height 4 0 = 5 | height 4 1 = 1",
            "tell <00,50,05,11,22;01,12,02,03,13,23,34> = 7 | height 4 0 = 5 | height 4 1 = 3 | height 3 0 = 5 | height 3 1 = 1",
            WHEEL3 + "weight 0 -9 = 10 | height 3 0 = 45 | height 3 2 = 2 | weight 0 0 = 0 | height 3 0 = 0 | height 3 1 = 1 | height 3 2 = 0");
    }

    private static void corner() {
        EDGES.edge("Of corner i of the POLYGON of a JOINT x (axis 0), y (1), a fraction. BAD.",
            WHEEL4 + "corner -1 0 0 0 = -1 | corner 5 0 0 0 = -1 | corner MIN 0 0 0 = -1 | corner MAX 0 0 0 = -1 | corner 4 1 0 0 = 4 | corner 4 1 0 2 = 2",
            WHEEL4 + "corner 4 1 -1 0 = -1 | corner 4 1 2 0 = -1 | corner 4 1 MIN 0 = -1 | corner 4 1 MAX 0 = -1 | corner 4 1 1 0 = 0",
            WHEEL4 + "corner 4 1 0 -1 = -1 | corner 4 1 0 3 = -1 | corner 4 1 0 MIN = -1 | corner 4 1 0 MAX = -1 | corner 4 1 0 1 = 1",
            "corner 0 0 0 0 = -1 | joint 0 0 = 0 | corner 0 0 0 0 = 0 | corner 0 0 1 1 = 1 | corner 0 0 1 2 = 0 | corner 0 1 0 0 = -1 | corner 1 0 0 0 = -1");
        EDGES.edge("corner i (0 .. m): FORCES of the first i HALF BARS from it together",
            WHEEL4 + "corner 4 -1 0 0 = -1 | corner 4 0 0 0 = 0 | corner 4 0 0 1 = 1 | corner 4 4 0 0 = 0 | corner 4 4 1 0 = 0 | corner 4 4 1 1 = 1 | corner 4 5 0 0 = -1",
            WHEEL4 + "corner 4 MIN 0 0 = -1 | corner 4 MAX 0 0 = -1 | corner 0 3 0 0 = 0 | corner 0 4 0 0 = -1",
            PATH6 + "corner 0 1 0 0 = 0 | corner 0 1 0 1 = 1 | corner 0 2 0 0 = -1 | corner 1 2 0 0 = 0 | corner 1 3 0 0 = -1");
    }

    private static void polygon() {
        EDGES.edge("in the order in which they are met turning counter-clockwise from where x grows (that way itself is the first).",
            // East, north, west, south.
            WHEEL4 + "corner 4 1 0 0 = 4 | corner 4 1 0 2 = 2 | corner 4 1 1 0 = 0 | corner 4 2 0 0 = 4 | corner 4 2 1 0 = 4 | corner 4 2 1 2 = 2"
                + " | corner 4 3 0 0 = 0 | corner 4 3 1 0 = 4 | corner 4 3 1 2 = 2",
            // From joint 0 just to the east first, then up; what goes down comes last.
            WHEEL4 + "corner 0 1 0 0 = 4 | corner 0 1 0 2 = 2 | corner 0 1 1 0 = 0 | corner 0 2 0 0 = 2 | corner 0 2 0 2 = 2 | corner 0 2 1 0 = 2 | corner 0 2 1 2 = 1",
            // From joint 2 up, just to the west, then down.
            WHEEL4 + "corner 2 1 0 0 = 2 | corner 2 1 0 2 = 2 | corner 2 1 1 2 = 1 | corner 2 2 0 0 = 2 | corner 2 2 0 2 = 1 | corner 2 2 1 0 = 2 | corner 2 2 1 2 = 1");
        EDGES.edge("POLYGON of a JOINT of m BARS (of any frame, WHOLE or not)",
            WITH_ONE_ALONE + "count 4 = 0 | corner 0 1 0 0 = 5 | corner 0 1 0 2 = 1 | corner 0 3 0 0 = 0 | corner 4 0 0 0 = 0 | corner 4 0 0 1 = 1 | corner 4 1 0 0 = -1",
            APART + "corner 3 1 0 0 = 0 | corner 3 1 0 1 = 1 | corner 3 2 0 0 = -1");
    }
}
