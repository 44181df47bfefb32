/** Promises 29 to 34: sheets, what rows of forces are. */
public final class SheetTest {
    private static final Check CHECK = new Check();
    private static final int MAX = Integer.MAX_VALUE;
    private static final int MIN = Integer.MIN_VALUE;
    private static final String WHEEL3 = "00,50,05,11;01,12,02,03,13,23";
    private static final String TWO_STRESSES = "00,50,05,11,22;01,12,02,03,13,23,34,14,24";

    private SheetTest() {
    }

    public static void main(String[] args) {
        promise29What();
        promise29WhatPlaces();
        promise29WhatOfNone();
        promise30Film();
        promise31Sheet();
        promise32Drop();
        promise33Item();
        promise34Copy();
        CHECK.end();
    }

    private static void due(String call, long got, long want) {
        CHECK.due(call, got, want);
    }

    private static void put(ForceFrames x, int sheet, int lane, int first, long... items) {
        for (int i = 0; i < items.length; i++) {
            x.item(sheet, lane, first + i, items[i]);
        }
    }

    /** What an item is can't be asked; a frame of one bar and no stress tells whether it is 0, or below. */
    private static String signs(ForceFrames x, int sheet, int lane, int length) {
        x.image();
        Check.tell(x, "00,10;01");
        StringBuilder all = new StringBuilder();
        for (int i = 0; i < length; i++) {
            int kind = x.what(sheet, lane, i);
            all.append(kind == -2 ? '?' : (kind & 2) == 0 ? '0' : (kind & 4) == 0 ? '-' : '+');
        }
        x.restore();
        return all.toString();
    }

    /** In a frame whose STRESSES are all v, v, v, -3 v, -3 v, -3 v the row of an item tells what it is. */
    private static boolean isExactly(ForceFrames x, int sheet, int lane, int i, int v) {
        x.image();
        Check.tell(x, "00,21,12,11;01,12,02,03,13,23");
        x.sheet(3, lane, 6);
        put(x, 3, lane, 0, 0, v, v, -3 * v, -3 * v, -3 * v);
        x.copy(sheet, i, 3, 0, 1);
        boolean is = (x.what(3, lane, 0) & 1) == 1;
        x.restore();
        return is;
    }

    private static void dueSigns(String call, String got, String want) {
        CHECK.holds(call + " left " + got + ", due is " + want, got.equals(want));
    }

    private static void promise29What() {
        ForceFrames x = Check.frameOf(WHEEL3);
        x.sheet(0, 2, 9);
        due("what sheet below", x.what(-1, 2, 0), -1);
        due("what sheet above", x.what(4, 2, 0), -1);
        due("what lane below", x.what(0, -1, 0), -1);
        due("what lane above", x.what(0, 4, 0), -1);
        due("what nothing, bad lane", x.what(1, 4, 0), -1);
        due("what nothing", x.what(1, 2, -5), -11);
        due("what cast", x.what(0, 1, -5), -12);
        due("what index below", x.what(0, 2, -1), -13);
        due("what index above", x.what(0, 2, 4), -13);
        due("what index most", x.what(0, 2, MAX), -13);
        due("what index least", x.what(0, 2, MIN), -13);
        due("all 0", x.what(0, 2, 3), 1 + 4 + 8);
        put(x, 0, 2, 1, 3, 1, 3, -15, -5, -5);
        due("three times THE STRESS", x.what(0, 2, 1), 1 + 2 + 8);
        put(x, 0, 2, 1, -6, -2, -6, 30, 10, 10);
        due("less six times", x.what(0, 2, 1), 1 + 2 + 8);
        put(x, 0, 2, 1, -6, -2, -6, 30, 10, 11);
        due("nearly", x.what(0, 2, 1), 2);
        put(x, 0, 2, 1, 1, 1, 1, 1, 1, 1);
        due("all 1", x.what(0, 2, 1), 2 + 4);
        put(x, 0, 2, 1, 1, 1, 1, 1, 1, 0);
        due("one 0", x.what(0, 2, 1), 4);
        put(x, 0, 2, 1, 99, -99, 0, 0, 0, 0);
        due("the ends of numbers", x.what(0, 2, 1), 0);
        x.item(0, 2, 1, 100);
        due("100", x.what(0, 2, 1), -2);
        due("100 and an index", x.what(0, 2, 4), -13);
        x.item(0, 2, 1, -100);
        due("-100", x.what(0, 2, 1), -2);
        due("one out of the row does not count", x.what(0, 2, 2), 0);
        whatBesideTheStress();
    }

    private static void whatBesideTheStress() {
        ForceFrames x = Check.frameOf(WHEEL3);
        x.sheet(0, 3, 6);
        put(x, 0, 3, 0, 3, 1, 3, -15, -5, -5);
        x.weight(0, 0);
        due("THE STRESS is 0: a STRESS that is no multiple", x.what(0, 3, 0), 1 + 2);
        x.sheet(0, 3, 6);
        due("THE STRESS is 0: 0", x.what(0, 3, 0), 1 + 4 + 8);
        x.item(0, 3, 0, Long.MIN_VALUE);
        due("the least long", x.what(0, 3, 0), -2);
        x.item(0, 3, 0, Long.MAX_VALUE);
        due("the greatest long", x.what(0, 3, 0), -2);
        x.item(0, 3, 0, 1L << 32);
        due("low bits alone are 0", x.what(0, 3, 0), -2);
        ForceFrames y = Check.frameOf(TWO_STRESSES);
        y.sheet(2, 0, 24);
        put(y, 2, 0, 15, 1, 0, 1, -5, -2, -2, 1, 1, 1);
        due("STRESS 0", y.what(2, 0, 15), 1 + 8);
        put(y, 2, 0, 15, 0, 1, 0, 0, 1, 1, -3, -3, -3);
        due("STRESS 1", y.what(2, 0, 15), 1);
        y.weight(0, 0);
        y.weight(1, -2);
        due("STRESS 1 of THE STRESS", y.what(2, 0, 15), 1 + 8);
        put(y, 2, 0, 15, 0, 1, 0, 0, 1, 1, -3, -3, -2);
        due("0 where it is 0, else not alike", y.what(2, 0, 15), 0);
        put(y, 2, 0, 15, 1, 1, 1, -5, -1, -1, -2, -2, -2);
        due("both", y.what(2, 0, 15), 1 + 2);
    }

    /** INDEX stands in the promise without a condition, so the place of no items is looked at too. */
    private static void promise29WhatOfNone() {
        ForceFrames x = Check.frameOf("00,10");
        due("of none: nothing", x.what(0, 0, 9), -11);
        x.sheet(0, 0, 2);
        due("of none: bad lane", x.what(0, 4, 9), -1);
        due("of none: cast", x.what(0, 1, 9), -12);
        due("of none, first", x.what(0, 0, 0), 15);
        due("of none, last", x.what(0, 0, 1), 15);
        due("of none, just as many", x.what(0, 0, 2), 15);
        due("of none, above", x.what(0, 0, 3), -13);
        due("of none, most", x.what(0, 0, MAX), -13);
        due("of none, below", x.what(0, 0, -1), -13);
        due("of none, least", x.what(0, 0, MIN), -13);
        put(x, 0, 0, 0, 100, -100);
        due("of none, no item is looked at", x.what(0, 0, 0), 15);
        ForceFrames none = new ForceFrames();
        for (int lane = 0; lane < 4; lane++) {
            none.sheet(lane, lane, 0);
            due("an empty row, just as many", none.what(lane, lane, 0), 15);
            due("an empty row, above", none.what(lane, lane, 1), -13);
            due("an empty row, below", none.what(lane, lane, -1), -13);
            none.sheet(lane, lane, 24);
            due("the longest row, just as many", none.what(lane, lane, 24), 15);
            due("the longest row, above", none.what(lane, lane, 25), -13);
        }
    }

    private static void promise29WhatPlaces() {
        ForceFrames x = Check.frameOf(WHEEL3);
        x.sheet(0, 1, 6);
        due("as many items as BARS", x.what(0, 1, 0), 13);
        due("one too few behind", x.what(0, 1, 1), -13);
        due("none behind", x.what(0, 1, 6), -13);
        due("above how many there are", x.what(0, 1, 7), -13);
        due("below", x.what(0, 1, -1), -13);
        x.sheet(0, 1, 5);
        due("a row shorter than the BARS", x.what(0, 1, 0), -13);
        x.sheet(0, 1, 0);
        due("a row of none", x.what(0, 1, 0), -13);
        x.out(5);
        due("a row of none, fewer BARS", x.what(0, 1, 0), -13);
        for (int k = 4; k >= 0; k--) {
            x.out(k);
        }
        due("a row of none, all BARS out", x.what(0, 1, 0), 15);
        due("all BARS out, above", x.what(0, 1, 1), -13);
        x.undo();
        due("a BAR is back", x.what(0, 1, 0), -13);
    }

    private static void promise30Film() {
        ForceFrames x = Check.frameOf("55,00,50,05,11;02,12,23,13,14,24,34");
        int bars = x.count(1);
        due("bars", bars, 7);
        for (int lane = 0; lane < 4; lane++) {
            x.sheet(lane, lane, 9);
            put(x, lane, lane, 0, 5, 5, 5, 5, 5, 5, 5, 5, 5);
            due("film", x.film(lane, lane, 1), 7);
            dueSigns("film", signs(x, lane, lane, 9), "+0+++---+");
            due("film below", x.film(lane, lane, -1), -13);
            due("film above", x.film(lane, lane, 3), -13);
            due("film most", x.film(lane, lane, MAX), -13);
            due("film cast", x.film(lane, (lane + 1) % 4, 0), -12);
            dueSigns("film refused", signs(x, lane, lane, 9), "+0+++---+");
        }
        for (int k = 0; k < 7; k++) {
            int sign = k == 0 ? 0 : k < 4 ? 1 : -1;
            CHECK.holds("film of bar " + k + " is " + sign, isExactly(x, 0, 0, 1 + k, sign));
        }
        x.weight(0, -4);
        due("film turned", x.film(0, 0, 0), 7);
        dueSigns("film turned", signs(x, 0, 0, 9), "0---+++-+");
        due("film sheet below", x.film(-1, 0, 0), -1);
        due("film sheet above", x.film(4, 0, 0), -1);
        due("film lane below", x.film(0, -1, 0), -1);
        due("film lane above", x.film(0, 4, 0), -1);
        x.drop(0);
        due("film nothing", x.film(0, 1, 99), -11);
        ForceFrames none = new ForceFrames();
        none.sheet(0, 0, 2);
        due("film of none", none.film(0, 0, 0), 0);
        due("film of none at the end", none.film(0, 0, 2), 0);
        due("film of none above", none.film(0, 0, 3), -13);
        due("film of none below", none.film(0, 0, -1), -13);
    }

    private static void promise31Sheet() {
        ForceFrames x = new ForceFrames();
        due("sheet below", x.sheet(-1, 0, 1), -1);
        due("sheet above", x.sheet(4, 0, 1), -1);
        due("lane below", x.sheet(0, -1, 1), -1);
        due("lane above", x.sheet(0, 4, 1), -1);
        due("n above", x.sheet(0, 0, 25), -1);
        due("n most", x.sheet(0, 0, MAX), -1);
        due("n below", x.sheet(0, 0, -1), -14);
        due("n least", x.sheet(0, 0, MIN), -14);
        due("n below, bad sheet", x.sheet(4, 0, -1), -1);
        due("refused holds nothing", x.drop(0), -11);
        due("24", x.sheet(0, 3, 24), 24);
        due("0", x.sheet(3, 0, 0), 0);
        due("an empty row is a row", x.drop(3), 0);
        put(x, 0, 3, 0, 7, 7);
        due("refused leaves the row", x.sheet(0, 0, -1), -14);
        dueSigns("refused", signs(x, 0, 3, 3), "++0");
        due("anew", x.sheet(0, 3, 3), 3);
        dueSigns("anew", signs(x, 0, 3, 3), "000");
        due("another lane", x.sheet(0, 1, 3), 3);
        due("cast now", x.item(0, 3, 0, 1), -12);
        due("sheets are no steps", x.count(8), 0);
    }

    private static void promise32Drop() {
        ForceFrames x = new ForceFrames();
        due("drop below", x.drop(-1), -1);
        due("drop above", x.drop(4), -1);
        due("drop nothing", x.drop(2), -11);
        x.sheet(2, 1, 5);
        due("drop", x.drop(2), 5);
        due("drop again", x.drop(2), -11);
        x.sheet(2, 1, 5);
        x.item(2, 1, 0, 9);
        x.drop(2);
        x.sheet(2, 1, 5);
        dueSigns("a new row is 0", signs(x, 2, 1, 5), "00000");
    }

    private static void promise33Item() {
        ForceFrames x = new ForceFrames();
        x.sheet(0, 0, 3);
        due("item sheet below", x.item(-1, 0, 0, 1), -1);
        due("item sheet above", x.item(4, 0, 0, 1), -1);
        due("item lane below", x.item(0, -1, 0, 1), -1);
        due("item lane above", x.item(0, 4, 0, 1), -1);
        due("item nothing", x.item(1, 0, 9, 1), -11);
        due("item cast", x.item(0, 2, 9, 1), -12);
        due("item below", x.item(0, 0, -1, 1), -13);
        due("item above", x.item(0, 0, 3, 1), -13);
        due("item most", x.item(0, 0, MAX, 1), -13);
        due("item", x.item(0, 0, 0, 256), 1);
        due("item", x.item(0, 0, 1, 255), 1);
        due("item", x.item(0, 0, 2, -129 - 256), 1);
        dueSigns("bytes", signs(x, 0, 0, 3), "0-?");
        x.sheet(1, 1, 3);
        put(x, 1, 1, 0, 65536, 65535, 256);
        dueSigns("shorts", signs(x, 1, 1, 3), "0-?");
        x.sheet(2, 2, 3);
        put(x, 2, 2, 0, 1L << 32, (1L << 32) - 1, 65536);
        dueSigns("ints", signs(x, 2, 2, 3), "0-?");
        x.sheet(3, 3, 3);
        put(x, 3, 3, 0, 0, -1, 1L << 32);
        dueSigns("longs", signs(x, 3, 3, 3), "0-?");
    }

    private static void promise34Copy() {
        ForceFrames x = new ForceFrames();
        x.sheet(0, 0, 5);
        x.sheet(1, 0, 4);
        x.sheet(2, 1, 4);
        put(x, 0, 0, 0, 1, -1, 0, 1, -1);
        due("copy from below", x.copy(-1, 0, 0, 0, 1), -1);
        due("copy from above", x.copy(4, 0, 0, 0, 1), -1);
        due("copy to below", x.copy(0, 0, -1, 0, 1), -1);
        due("copy to above", x.copy(0, 0, 4, 0, 1), -1);
        due("copy to nothing", x.copy(0, 9, 3, 9, -1), -11);
        due("copy from nothing", x.copy(3, 9, 0, 9, -1), -11);
        due("copy nothing to itself", x.copy(3, 0, 3, 0, 0), -11);
        due("copy cast", x.copy(0, 9, 2, 9, -1), -12);
        int[][] bad = {
            {0, 0, -1}, {-1, 0, 1}, {0, -1, 1}, {0, 0, 5}, {2, 0, 4}, {0, 2, 3}, {6, 0, 0}, {0, 5, 0}, {-1, 0, 0},
            {0, -1, 0}, {0, 0, MAX}, {MAX, 0, 1}, {0, MAX, 1}, {MAX, MAX, MAX}, {MIN, 0, 1}, {0, 0, MIN}, {0, MIN, 0},
        };
        for (int[] b : bad) {
            due("copy index " + b[0] + ", " + b[1] + ", " + b[2], x.copy(0, b[0], 1, b[1], b[2]), -13);
        }
        dueSigns("copy refused", signs(x, 1, 0, 4), "0000");
        due("copy none at the ends", x.copy(0, 5, 1, 4, 0), 0);
        due("copy", x.copy(0, 1, 1, 2, 2), 2);
        dueSigns("copy", signs(x, 1, 0, 4), "00-0");
        due("copy up over itself", x.copy(0, 0, 0, 1, 4), 4);
        dueSigns("copy up", signs(x, 0, 0, 5), "++-0+");
        due("copy down over itself", x.copy(0, 1, 0, 0, 4), 4);
        dueSigns("copy down", signs(x, 0, 0, 5), "+-0++");
        due("copy all", x.copy(1, 0, 0, 1, 4), 4);
        dueSigns("copy all", signs(x, 0, 0, 5), "+00-0");
    }
}
