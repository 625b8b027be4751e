/** What the tests that are written by hand share: how texts come in, and how an answer is checked. */
abstract class Checks {
    static final int MIN = Integer.MIN_VALUE;
    static final int MAX = Integer.MAX_VALUE;
    static final int NONE = WaterTurns.NONE;

    static int wrong = 0;
    /** The promise, or the sentence of the document, that is looked at. */
    static String promise = "";
    static WaterTurns x = new WaterTurns();

    // ---- how a check is told

    static void begin(String what) {
        promise = what;
        x = new WaterTurns();
    }

    /** A sentence of the document, and where it stands: each is looked at with an object of its own. */
    static void says(String where, String sentence) {
        begin(where + ", '" + sentence + "'");
    }

    static void due(String call, long got, long want) {
        if (got != want) {
            wrong++;
            System.out.println(promise + ": " + call + " is " + got + ", due is " + want);
        }
    }

    /** An answer with STATUS 0. */
    static void gives(String call, long got, long want) {
        due(call, got, want);
        due(call + " status", x.status(), 0);
    }

    static void did(String call, boolean got) {
        gives(call, got ? 1 : 0, 1);
    }

    static void refused(String call, long got, int status) {
        due(call, got, NONE);
        due(call + " status", x.status(), status);
    }

    static void denied(String call, boolean got, int status) {
        due(call, got ? 1 : 0, 0);
        due(call + " status", x.status(), status);
    }

    static void fraction(String call, boolean got, long top, long bottom) {
        did(call, got);
        told(call, top, bottom);
    }

    /** The FRACTION that was told latest. */
    static void told(String call, long top, long bottom) {
        due(call + " top", x.top(), top);
        due(call + " bottom", x.bottom(), bottom);
    }

    static void finish(String fine) {
        System.out.println(wrong == 0 ? fine : wrong + " answers are not as due");
        if (wrong != 0) {
            System.exit(1);
        }
    }

    // ---- texts

    static int feed(String text) {
        for (int at = 0; at < text.length(); at += 20) {
            int[] ints = new int[5];
            for (int k = 0; k < 20; k++) {
                int c = at + k < text.length() ? text.charAt(at + k) : 0;
                ints[k / 4] |= c << (24 - 8 * (k % 4));
            }
            x.feed(ints[0], ints[1], ints[2], ints[3], ints[4]);
        }
        return text.length();
    }

    static void valley(String text, int fields) {
        gives("valley: " + text, x.valley(feed(text)), fields);
        due("its fault", x.fault(0), 0);
        due("its place", x.fault(1), NONE);
    }

    static void days(String text, int steps) {
        gives("days: " + text, x.days(feed(text)), steps);
        due("its fault", x.fault(0), 0);
        due("its place", x.fault(1), NONE);
    }

    static void badValley(String text, int fault, int place) {
        refused("valley: " + text, x.valley(feed(text)), 9);
        due("fault of " + text, x.fault(0), fault);
        due("place in " + text, x.fault(1), place);
    }

    static void badDays(String text, int fault, int place) {
        refused("days: " + text, x.days(feed(text)), 9);
        due("fault of " + text, x.fault(0), fault);
        due("place in " + text, x.fault(1), place);
    }

    static String times(int n, String text) {
        return text.repeat(n);
    }

    /** Two REACHES, three FIELDS: b on the second, TURNS a 0..10, b 10..30, c 30..60. */
    static final String THREE = "head 12;span 60 begins 0;reach up loses 1 in 4;reach low of up loses 1 in 3;"
            + "owner anna;owner ben;field a on up shares 1 needs 90 by anna;field b on low shares 2 needs 100 by ben;"
            + "field c on low shares 3 needs 300;";

    static void three() {
        valley(THREE, 3);
    }
}
