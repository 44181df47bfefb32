/** Counts answers that are not as due, and prints each of them. */
final class Check {
    private int wrong;
    private int asked;

    void due(String call, long got, long want) {
        asked++;
        if (got != want) {
            wrong++;
            System.out.println(call + " answered " + got + ", due is " + want);
        }
    }

    void holds(String claim, boolean is) {
        asked++;
        if (!is) {
            wrong++;
            System.out.println("not so: " + claim);
        }
    }

    void end() {
        System.out.println(asked + " answers asked, " + wrong + " not as due");
        if (wrong != 0 || asked == 0) {
            System.exit(1);
        }
    }

    /** Types a text and reads it. */
    static int tell(ForceFrames x, String text) {
        for (int i = 0; i < text.length(); i++) {
            x.type(text.charAt(i));
        }
        return x.read();
    }

    static ForceFrames frameOf(String text) {
        ForceFrames x = new ForceFrames();
        tell(x, text);
        return x;
    }

    /** A fraction told in three parts, as a text. */
    static String fraction(long above, long below, long sign) {
        return (sign == 2 ? "-" : "") + above + "/" + below + (sign == 0 ? " (0)" : "");
    }
}
