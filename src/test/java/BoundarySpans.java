/** Each sentence of the document that names an edge of TRAYS, gauges, SPANS, DAYS, MARKS and STATUS. */
public final class BoundarySpans extends Checks {

    // ---- a new object, STATUS, the FRACTION

    private static void newObject() {
        says("1", "A VALLEY of no REACHES, OWNERS, FIELDS (HEAD 100, SPAN 1,440 from 0)");
        int[] told = {100, 1440, 0, 0, 0, 0, 0, 0, 0};
        for (int what = 0; what < told.length; what++) {
            gives("told " + what, x.told(what), told[what]);
        }
        refused("no REACH", x.reach(0, 0), 1);
        refused("no FIELD", x.field(0, 0), 1);
        refused("no FIELD", x.account(0), 1);
        says("1", "no DAYS, MARKS; TRAYS are MISSING; an empty tape; the FRACTION 0 by 1; STATUS 0");
        due("STATUS", x.status(), 0);
        due("top", x.top(), 0);
        due("bottom", x.bottom(), 1);
        refused("no DAYS", x.live(0), 6);
        refused("no MARKS", x.back(), 6);
        for (int tray = 0; tray < 4; tray++) {
            refused("MISSING", x.read(tray, 0), 2);
        }
        refused("an empty tape", x.valley(1), 1);

        says("5", "status(), top(), bottom(), feed(), fault() have none");
        for (int status = 0; status < 2; status++) {
            x.told(status == 0 ? 0 : 9);
            due("STATUS", x.status(), status);
            x.top();
            due("top() has none", x.status(), status);
            x.bottom();
            due("bottom() has none", x.status(), status);
            x.fault(0);
            due("fault() has none", x.status(), status);
            x.fault(5);
            due("fault() has none", x.status(), status);
            x.feed(0, 0, 0, 0, 0);
            due("feed() has none", x.status(), status);
        }
        for (int k = 0; k < 46; k++) {
            x.feed(0, 0, 0, 0, 0);
        }
        due("feed() that gives NONE has none", x.status(), 1);

        says("2", "STATUS of the latest call that has one");
        x.told(-1);
        due("1", x.status(), 1);
        x.read(0, 0);
        due("2", x.status(), 2);
        x.tray(0, 0, 0);
        due("0", x.status(), 0);
        x.read(0, 0);
        due("3", x.status(), 3);
        x.order(0);
        due("6", x.status(), 6);
        x.slots();
        due("0", x.status(), 0);
        due("asked again", x.status(), 0);

        says("5", "0 else");
        three();
        days("pass;", 1);
        x.tray(0, 0, 3);
        x.tray(1, 0, 3);
        x.live(0);
        x.mark();
        for (int which = 0; which < CALLS; which++) {
            refused("told", x.told(-1), 1);
            call(which);
            due("STATUS of call " + which, x.status(), 0);
        }

        says("4", "FRACTIONS are told by top() and bottom() without a common divisor, the bottom above 0; 0 is 0 by 1");
        x.tray(0, 3, 60);
        readings(6, 10, 0, 0, 4, 4);
        fraction("8", x.mean(0, 2), 8, 1);
        fraction("16 by 3", x.mean(0, 3), 16, 3);
        fraction("4", x.mean(0, 4), 4, 1);
        fraction("24 by 6", x.mean(0, 6), 4, 1);
        fraction("24 by 60", x.mean(0, 60), 2, 5);
        x.tray(1, 3, 60);
        fraction("0", x.mean(1, 60), 0, 1);
        denied("another STATUS", x.mean(2, 60), 2);
        told("the FRACTION told latest", 0, 1);
    }

    private static final int CALLS = 49;

    /** Each call that has a STATUS, such that it can be in the VALLEY of three FIELDS. */
    private static void call(int which) {
        switch (which) {
            case 0 -> x.tray(2, 3, 60);
            case 1 -> x.write(0, 2, 5);
            case 2 -> x.read(0, 2);
            case 3 -> x.pour(0, 0, 1, 0, 3);
            case 4 -> x.told(8);
            case 5 -> x.reach(1, 0);
            case 6 -> x.field(2, 0);
            case 7 -> x.below(1);
            case 8 -> x.order(2);
            case 9 -> x.turn(2, 1);
            case 10 -> x.swap(0, 2);
            case 11 -> x.owed(0, 2);
            case 12 -> x.slots();
            case 13 -> x.slot(2, 2);
            case 14 -> x.whose(59);
            case 15 -> x.minutes(2, 1);
            case 16 -> x.close(1, false);
            case 17 -> x.head(12);
            case 18 -> x.lets(1, 59);
            case 19 -> x.rate(2);
            case 20 -> x.water(2);
            case 21 -> x.lost(1);
            case 22 -> x.runsOut(NONE);
            case 23 -> x.runsOut(1);
            case 24 -> x.waterOf(NONE);
            case 25 -> x.lacking(2);
            case 26 -> x.spare(2);
            case 27 -> x.neediest();
            case 28 -> x.richest(true);
            case 29 -> x.mending();
            case 30 -> x.off();
            case 31 -> x.driest();
            case 32 -> x.waits(0, 0);
            case 33 -> x.headFor(2);
            case 34 -> x.shadow();
            case 35 -> x.debts();
            case 36 -> x.balance(1);
            case 37 -> x.mean(0, 3);
            case 38 -> x.gaps(0, 3);
            case 39 -> x.suspects(0);
            case 40 -> x.lend(2, 0, 1);
            case 41 -> x.pass();
            case 42 -> x.account(2);
            case 43 -> x.live(9);
            case 44 -> x.lived(3);
            case 45 -> x.odds(2, 0, 0, 10);
            case 46 -> x.mark();
            case 47 -> x.back();
            default -> x.valley(0);
        }
    }

    private static void readings(long... values) {
        for (int k = 0; k < values.length; k++) {
            did("write", x.write(0, k, values[k]));
        }
    }

    // ---- TRAYS

    private static void trays() {
        says("Terms", "TRAYS 0 to 3 are MISSING at first, or rows of 0 to 60 numbers");
        int[][] bad = {{-1, 0, 1}, {4, 0, 1}, {0, -1, 1}, {0, 4, 1}, {0, 0, -1}, {0, 0, 61}, {MIN, 0, 1}, {MAX, 0, 1},
            {0, MIN, 1}, {0, MAX, 1}, {0, 0, MIN}, {0, 0, MAX}};
        for (int[] b : bad) {
            denied("tray " + b[0] + "," + b[1] + "," + b[2], x.tray(b[0], b[1], b[2]), 1);
        }
        for (int tray = 0; tray < 4; tray++) {
            refused("still MISSING", x.read(tray, 0), 2);
            did("of none", x.tray(tray, tray, 0));
            refused("no place", x.read(tray, 0), 3);
            did("of one", x.tray(tray, tray, 1));
            gives("a place", x.read(tray, 0), 0);
            refused("one place alone", x.read(tray, 1), 3);
            did("of 60", x.tray(tray, tray, 60));
            gives("the last place", x.read(tray, 59), 0);
            refused("behind it", x.read(tray, 60), 3);
        }
        says("5", "A TRAY is a row of so many 0s (1)");
        x.tray(2, 3, 60);
        x.write(2, 0, 7);
        x.write(2, 59, 8);
        denied("refused", x.tray(2, 3, 61), 1);
        gives("as it was", x.read(2, 59), 8);
        did("a shorter one", x.tray(2, 3, 1));
        gives("0", x.read(2, 0), 0);
        refused("no more there", x.read(2, 59), 3);
        did("a longer one", x.tray(2, 3, 60));
        gives("0", x.read(2, 59), 0);

        says("Terms", "of 8 bits (sort 0), 16 (1), 32 (2) or 64 (3)");
        for (int sort = 0; sort < 4; sort++) {
            x.tray(sort, sort, 1);
            long most = sort == 3 ? Long.MAX_VALUE : (1L << (8 << sort) - 1) - 1;
            cut(sort, most, most);
            cut(sort, most + 1, -most - 1);
            cut(sort, -most - 1, -most - 1);
            cut(sort, -most - 2, most);
            cut(sort, -1, -1);
            cut(sort, 2 * most + 1, -1);
            cut(sort, 2 * most + 2, 0);
            cut(sort, Long.MIN_VALUE, sort == 3 ? Long.MIN_VALUE : 0);
            cut(sort, Long.MAX_VALUE, sort == 3 ? Long.MAX_VALUE : -1);
        }

        says("6", "A number comes to a place of a TRAY, cut to its sort (1, 2, 3)");
        denied("no such TRAY", x.write(-1, 0, 1), 1);
        denied("no such TRAY", x.write(4, -1, 1), 1);
        denied("MISSING is ahead of 3", x.write(3, -1, 1), 2);
        x.tray(3, 0, 2);
        int[] places = {-1, 2, 60, MIN, MAX};
        for (int place : places) {
            denied("write at " + place, x.write(3, place, 1), 3);
            refused("read at " + place, x.read(3, place), 3);
        }
        gives("nothing came", x.read(3, 0) + x.read(3, 1), 0);

        says("7", "STATUS tells NONE from -1 (1, 2, 3)");
        refused("no such TRAY", x.read(4, 0), 1);
        refused("no such TRAY", x.read(MIN, 0), 1);
        refused("no such TRAY", x.read(MAX, 0), 1);
        refused("MISSING is ahead of 3", x.read(0, 77), 2);
        x.tray(0, 3, 1);
        x.write(0, 0, -1);
        gives("-1", x.read(0, 0), -1);
        refused("NONE", x.read(0, 1), 3);
    }

    private static void cut(int sort, long v, long want) {
        did("write", x.write(sort, 0, v));
        gives("sort " + sort + " of " + v, x.read(sort, 0), want);
    }

    private static void rowIs(int tray, long... values) {
        for (int k = 0; k < values.length; k++) {
            gives("place " + k, x.read(tray, k), values[k]);
        }
    }

    private static void pourings() {
        says("8", "come to another one's (or its own) place on, as they were");
        x.tray(0, 2, 5);
        x.tray(1, 2, 5);
        readings(1, 2, 3, 4, 5);
        did("all of them", x.pour(0, 0, 1, 0, 5));
        rowIs(1, 1, 2, 3, 4, 5);
        did("one on", x.pour(0, 0, 0, 1, 4));
        rowIs(0, 1, 1, 2, 3, 4);
        did("one back", x.pour(1, 1, 1, 0, 4));
        rowIs(1, 2, 3, 4, 5, 5);
        did("to where they are", x.pour(1, 0, 1, 0, 5));
        rowIs(1, 2, 3, 4, 5, 5);
        did("none", x.pour(0, 5, 1, 5, 0));
        did("none", x.pour(0, 0, 1, 0, 0));
        did("the last to the last", x.pour(0, 4, 1, 4, 1));
        rowIs(1, 2, 3, 4, 5, 4);
        x.tray(2, 0, 0);
        did("none of none", x.pour(2, 0, 2, 0, 0));

        says("8", "1: below 0, too; 2; 8; 3; asked in this order");
        x.tray(0, 2, 5);
        x.tray(1, 1, 5);
        x.tray(2, 2, 3);
        readings(1, 2, 3, 4, 5);
        denied("1: from", x.pour(4, 99, 3, 99, 99), 1);
        denied("1: from", x.pour(-1, 99, 3, 99, 99), 1);
        denied("1: to", x.pour(3, 99, 4, 99, 99), 1);
        denied("1: to", x.pour(3, 99, -1, 99, 99), 1);
        denied("1: place", x.pour(3, -1, 1, 99, 99), 1);
        denied("1: at", x.pour(3, 99, 1, -1, 99), 1);
        denied("1: many", x.pour(3, 99, 1, 99, -1), 1);
        denied("1: far below", x.pour(0, MIN, 1, MIN, MIN), 1);
        denied("2: from", x.pour(3, 99, 1, 99, 99), 2);
        denied("2: to", x.pour(1, 99, 3, 99, 99), 2);
        denied("8", x.pour(0, 99, 1, 99, 99), 8);
        denied("8, of none, too", x.pour(0, 0, 1, 0, 0), 8);
        denied("3: too few", x.pour(0, 0, 2, 0, 4), 3);
        denied("3: too few behind the place", x.pour(0, 3, 2, 0, 3), 3);
        denied("3: too few behind the other place", x.pour(0, 0, 2, 1, 3), 3);
        denied("3: none, but behind the end", x.pour(0, 6, 2, 0, 0), 3);
        denied("3: none, but behind the end", x.pour(0, 0, 2, 4, 0), 3);
        denied("3: far behind", x.pour(0, MAX, 2, MAX, MAX), 3);
        denied("3: far behind", x.pour(0, 1, 0, 1, MAX), 3);
        denied("3: far behind", x.pour(0, MAX, 0, 0, 1), 3);
        rowIs(2, 0, 0, 0);
        rowIs(0, 1, 2, 3, 4, 5);
        did("just enough", x.pour(0, 2, 2, 0, 3));
        rowIs(2, 3, 4, 5);
    }

    // ---- gauges

    private static void gauges() {
        says("48", "the first so many (1 to 60) numbers of a TRAY");
        x.tray(0, 3, 60);
        x.write(0, 0, 7);
        x.write(0, 59, 53);
        fraction("1", x.mean(0, 1), 7, 1);
        fraction("60", x.mean(0, 60), 1, 1);
        fraction("59", x.mean(0, 59), 7, 59);
        int[] many = {0, -1, 61, MIN, MAX};
        for (int n : many) {
            denied("mean of " + n, x.mean(0, n), 1);
            refused("gaps of " + n, x.gaps(0, n), 1);
        }
        says("48", "5: below -1, above 999,999; 6: none is a reading; asked in this order");
        denied("1: TRAY", x.mean(4, 1), 1);
        denied("1: TRAY", x.mean(-1, 1), 1);
        denied("1 is ahead of 2", x.mean(3, 0), 1);
        denied("1 is ahead of 2", x.mean(3, 61), 1);
        denied("2", x.mean(3, 60), 2);
        x.tray(0, 3, 2);
        readings(-2, 1000000);
        denied("3 is ahead of 5", x.mean(0, 3), 3);
        denied("5: below -1", x.mean(0, 1), 5);
        refused("5: below -1", x.gaps(0, 1), 5);
        readings(-1, 1000000);
        denied("5 is ahead of 6", x.mean(0, 2), 5);
        refused("5: above 999,999", x.gaps(0, 2), 5);
        denied("6: the first alone", x.mean(0, 1), 6);
        readings(-1, 999999);
        fraction("999,999", x.mean(0, 2), 999999, 1);
        readings(-1, -1);
        denied("6", x.mean(0, 2), 6);
        told("the FRACTION stays", 999999, 1);
        readings(Long.MIN_VALUE, 0);
        denied("5", x.mean(0, 2), 5);
        readings(Long.MAX_VALUE, 0);
        denied("5", x.mean(0, 2), 5);
        readings(4294967295L, 0);
        denied("5: of 64 bits it is no -1", x.mean(0, 2), 5);
        readings(0, -1);
        fraction("0 is a reading", x.mean(0, 2), 0, 1);
        x.tray(0, 3, 0);
        denied("3: a TRAY of none", x.mean(0, 1), 3);

        says("3", "GAPS: the most that are none one behind the other");
        x.tray(0, 1, 8);
        gives("no gaps", x.gaps(0, 8), 0);
        readings(-1, -1, 0, -1, -1, -1, 5, -1);
        gives("within", x.gaps(0, 8), 3);
        gives("at the end of so many", x.gaps(0, 5), 2);
        gives("at the beginning", x.gaps(0, 2), 2);
        gives("one", x.gaps(0, 1), 1);
        readings(0, -1, -1, 0, -1, -1, -1, -1);
        gives("at the end", x.gaps(0, 8), 4);
        readings(-1, -1, -1, -1, -1, -1, -1, -1);
        gives("all of them", x.gaps(0, 8), 8);
        says("49", "GAPS (1; 2; 3; 5)");
        refused("1: TRAY", x.gaps(4, 1), 1);
        refused("1: TRAY", x.gaps(-1, 1), 1);
        refused("1 is ahead of 2", x.gaps(0, 0), 1);
        refused("2", x.gaps(0, 60), 2);
        x.tray(0, 3, 2);
        readings(-2, 0);
        refused("3 is ahead of 5", x.gaps(0, 3), 3);
        refused("5", x.gaps(0, 2), 5);
    }

    private static void leaks(int set, long... values) {
        readings(values);
        gives("suspects", x.suspects(0), set);
    }

    private static void suspects() {
        says("3", "SUSPECT are the REACHES such that just FIELDS on or below it have a reading that is less");
        three();
        x.head(13);
        x.tray(0, 3, 3);
        leaks(0, 9, 6, 6);
        leaks(0, 10, 7, 7);
        leaks(2, 9, 5, 5);
        leaks(2, 9, 0, 0);
        leaks(1, 8, 5, 5);
        leaks(0, 9, 5, 6);
        leaks(0, 8, 6, 6);
        leaks(0, 8, 5, 6);
        leaks(2, 9, -1, 5);
        leaks(3, -1, -1, 5);
        leaks(1, 8, -1, -1);
        leaks(0, 9, -1, -1);
        says("3", "and one at least");
        three();
        x.tray(0, 3, 3);
        leaks(0, -1, -1, -1);
        x.head(0);
        leaks(0, 0, 0, 0);
        x.head(1);
        leaks(0, 0, 0, 0);
        valley("head 2;reach a loses 1 in 2;reach b of a loses 0 in 1;reach c loses 0 in 1;"
                + "field x on b shares 1 needs 0;field y on b shares 1 needs 0;", 2);
        leaks(3, 0, 0, 0);
        leaks(3, 0, -1, 0);
        leaks(0, 1, 0, 0);
        says("3", "less than their RATE rounded down");
        valley("head 1;reach a loses 0 in 1;field x on a shares 1 needs 0;", 1);
        x.tray(0, 3, 1);
        leaks(1, 0);
        leaks(0, 1);
        x.head(999);
        leaks(1, 998);
        leaks(0, 999);

        says("50", "5: below -1, above 999; asked in this order");
        three();
        refused("1", x.suspects(-1), 1);
        refused("1", x.suspects(4), 1);
        refused("1", x.suspects(MIN), 1);
        refused("1", x.suspects(MAX), 1);
        refused("2", x.suspects(0), 2);
        x.tray(0, 3, 2);
        readings(-2, 1000);
        refused("3 is ahead of 5", x.suspects(0), 3);
        x.tray(0, 3, 3);
        readings(-2, 0, 0);
        refused("5: below -1", x.suspects(0), 5);
        readings(0, 0, 1000);
        refused("5: above 999", x.suspects(0), 5);
        leaks(1, 0, 0, -1);
        leaks(2, 999, 0, 0);
        readings(0, 0, Long.MAX_VALUE);
        refused("5: far above", x.suspects(0), 5);
        x = new WaterTurns();
        x.tray(0, 0, 0);
        gives("no FIELDS, no numbers", x.suspects(0), 0);
    }

    // ---- SPANS

    private static void spans() {
        says("3", "SPAN is one more (99 at most)");
        for (int k = 1; k <= 99; k++) {
            gives("pass", x.pass(), k);
        }
        says("51", "The SPAN passes: which one it is (4: above 99)");
        three();
        for (int k = 1; k <= 99; k++) {
            gives("pass", x.pass(), k);
        }
        x.lend(0, 1, 1);
        refused("above 99", x.pass(), 4);
        gives("SPAN", x.told(6), 99);
        gives("ACCOUNT", x.account(0), 8910);
        gives("what is LENT", x.told(8), 1);
        three();
        gives("a new VALLEY", x.pass(), 1);

        says("3", "each FIELD's ACCOUNT is its WATER, rounded down to whole litres, more");
        valley("head 1;span 1 begins 0;reach a loses 11 in 12;field x on a shares 1 needs 0;", 1);
        x.pass();
        gives("a twelfth", x.account(0), 0);
        x.head(11);
        x.pass();
        gives("eleven twelfths", x.account(0), 0);
        x.head(12);
        x.pass();
        gives("one", x.account(0), 1);
        x.head(23);
        x.pass();
        gives("one and eleven twelfths", x.account(0), 2);
        x.head(0);
        x.pass();
        gives("nothing", x.account(0), 2);

        says("3", "nothing is LENT any more (what is OWED stays)");
        three();
        x.lend(0, 1, 10);
        x.pass();
        gives("LOANS", x.told(8), 0);
        gives("SLOTS", x.slots(), 3);
        gives("OWED", x.owed(1, 0), 10);
        gives("in that SPAN it was", x.account(0), 0);
        gives("HEAD stays", x.told(0), 12);

        says("52", "The ACCOUNT of a FIELD (1)");
        refused("no FIELDS", x.account(0), 1);
        three();
        int[] fields = {-1, 3, 10, MIN, MAX};
        for (int f : fields) {
            refused("account " + f, x.account(f), 1);
        }
        valley("head 999;reach a loses 0 in 1;field x on a shares 1 needs 0;", 1);
        for (int k = 0; k < 99; k++) {
            x.pass();
        }
        gives("the most", x.account(0), 142417440);
    }

    // ---- DAYS

    private static void range(String ahead, int least, int most, String behind) {
        boolean isBlock = ahead.startsWith("when") || ahead.startsWith("loop");
        String rest = behind + (isBlock ? "end;" : "");
        days(ahead + least + rest, 1);
        days(ahead + most + rest, 1);
        if (least > 0) {
            badDays(ahead + (least - 1) + rest, 4, ahead.length());
        }
        if (most < 9999) {
            badDays(ahead + (most + 1) + rest, 4, ahead.length());
            badDays(ahead + "9999" + rest, 4, ahead.length());
        }
        badDays(ahead + "10000" + rest, 1, ahead.length());
    }

    private static void dayFaults() {
        says("4", "lend (1 to 999 minutes)");
        three();
        range("lend a b ", 1, 999, ";");
        says("4", "flow: HEAD (0 to 999)");
        three();
        range("flow ", 0, 999, ";");
        says("4", "dry n (0 to 16)");
        three();
        range("dry ", 0, 16, ";");
        says("4", "loop n (1 to 99)");
        three();
        range("loop ", 1, 99, ";");
        says("4", "how much that FIELD owes all others (0 to 999)");
        three();
        range("when owes a < ", 0, 999, ";");
        range("when owes a > ", 0, 999, ";");
        range("when owes a = ", 0, 999, ";");
        says("4", "rich: ACCOUNT (0 to 9,999)");
        three();
        range("when rich a < ", 0, 9999, ";");
        range("when rich a > ", 0, 9999, ";");
        range("when rich a = ", 0, 9999, ";");

        says("4", "3 a NAME that is no such one");
        three();
        String[] reaches = {"shut ", "open ", "when shut "};
        for (String ahead : reaches) {
            String end = ahead.startsWith("when") ? "end;" : "";
            days(ahead + "low;" + end, 1);
            badDays(ahead + "a;" + end, 3, ahead.length());
            badDays(ahead + "anna;" + end, 3, ahead.length());
            badDays(ahead + "nobody;" + end, 3, ahead.length());
        }
        String[] fields = {"swap ", "swap a ", "lend ", "lend a ", "pay ", "pay a ", "when owes ", "when rich "};
        for (String ahead : fields) {
            badDays(ahead + "up b 1;", 3, ahead.length());
            badDays(ahead + "ben b 1;", 3, ahead.length());
            badDays(ahead + "nobody b 1;", 3, ahead.length());
        }
        says("4", "3 a NAME that is no such one");
        badDays("shut up;", 3, 5);
        three();
        days("shut up;", 1);
        valley("reach upper loses 0 in 1;", 0);
        badDays("shut up;", 3, 5);

        says("4", "an end without a beginning; the text's end ahead of an end: 2");
        three();
        badDays("end;", 2, 0);
        badDays("loop 1;end;end;", 2, 11);
        badDays("pass;end;", 2, 5);
        badDays("loop 1;", 2, 7);
        badDays("loop 1;when shut up;end;", 2, 24);
        badDays("loop 1;pass; ", 2, 13);
        badDays("loop 1;end", 2, 10);
        badDays("loop 1;end pass;", 2, 11);
        days("loop 1;end;", 1);
        days("loop 1;when shut up;end;end;", 2);

        says("4", "6 a 31st STEP (at its WORD; end is none)");
        three();
        String thirty = times(30, "pass;");
        days(thirty, 30);
        badDays(thirty + "pass;", 6, 150);
        badDays(thirty + " stop", 6, 151);
        badDays(thirty + "shut nobody;", 6, 150);
        badDays(thirty + "end;", 2, 150);
        badDays(thirty + "turn;", 2, 150);
        badDays(thirty + "&", 1, 150);
        days("loop 1;" + times(29, "pass;") + "end;", 30);
        badDays("loop 1;" + times(30, "pass;") + "end;", 6, 152);
        days(times(3, "loop 1;") + times(27, "pass;") + times(3, "end;"), 30);
        days(times(27, "loop1;end;") + "pass;pass;pass;", 30);
        days(times(30, "loop1;end;"), 30);

        says("4", "7 a when, loop within three others (at its WORD)");
        three();
        String three = "loop 2;when shut up;loop 2;";
        days(three + "pass;end;end;end;", 4);
        badDays(three + "loop 2;end;end;end;end;", 7, three.length());
        badDays(three + "when shut up;", 7, three.length());
        badDays(three + "when", 7, three.length());
        badDays(three + "loop &", 7, three.length());
        days(three + "end;loop 3;end;end;end;", 4);
        days(three + "end;end;end;" + three + "end;end;end;", 6);
        badDays(three + times(27, "pass;") + "loop", 6, three.length() + 135);
        badDays(three + times(26, "pass;") + "loop", 7, three.length() + 130);
    }

    /** Whether the STEP within a when was done: HEAD is 1 then. */
    private static void test(String test, boolean holds) {
        days("flow 0;when " + test + ";flow 1;end;", 3);
        gives("live", x.live(0), holds ? 3 : 2);
        gives(test, x.told(0), holds ? 1 : 0);
    }

    private static void tests() {
        says("4", "COMPARES: < or > or =");
        three();
        x.lend(0, 1, 3);
        x.lend(2, 1, 4);
        compared("owes b", 7);
        test("owes a=0", true);
        test("owes a<1", true);
        test("owes a>0", false);
        test("owes c=0", true);
        test("owes b<999", true);
        says("4", "rich: ACCOUNT (0 to 9,999)");
        three();
        test("rich a=0", true);
        test("rich a<9999", true);
        test("rich a>0", false);
        x.head(12);
        x.pass();
        compared("rich a", 90);
        compared("rich b", 120);
        valley("head 999;span 11 begins 0;reach r loses 0 in 1;field x on r shares 1 needs 0;", 1);
        x.pass();
        test("rich x>9999", true);
        test("rich x=9999", false);
        says("4", "when shut: it is CLOSED");
        valley("span 10 begins 0;reach a loses 0 in 1 shut 0 to 1440;reach b of a loses 0 in 1;", 0);
        test("shut a", false);
        x.close(0, true);
        test("shut a", true);
        test("shut b", false);

        says("4", "or when TEST ; {STEP} end ;");
        three();
        days("when owes a=0;flow 1;end;shut up;when owes a=1;flow 2;end;shut low;", 6);
        gives("what stands behind an end is done, too", x.live(0), 5);
        gives("HEAD", x.told(0), 1);
        gives("CLOSED", x.told(7), 3);
        days("loop 5;stop;end;", 2);
        gives("a loop that is left", x.live(0), 2);
        days("when shut up;flow 7;end;", 2);
        gives("a when is done once", x.live(0), 2);
        days("loop 99;when shut up;loop 99;flow 8;end;end;end;", 4);
        gives("a loop that is cut", x.live(0), 300);
        days("when shut up;when shut low;when shut up;flow 9;end;end;end;", 4);
        gives("each when is done once", x.live(0), 4);
    }

    private static void compared(String one, int value) {
        test(one + "<" + (value - 1), false);
        test(one + "<" + value, false);
        test(one + "<" + (value + 1), true);
        test(one + "=" + (value - 1), false);
        test(one + "=" + value, true);
        test(one + "=" + (value + 1), false);
        test(one + ">" + (value - 1), true);
        test(one + ">" + value, false);
        test(one + ">" + (value + 1), false);
    }

    private static void lived(int done, int passed, int missed, int halved, int left) {
        gives("live", x.live(0), done);
        gives("SPANS", x.lived(0), passed);
        gives("MISSED", x.lived(1), missed);
        gives("halved", x.lived(2), halved);
        gives("left", x.lived(3), left);
    }

    private static void steps() {
        says("4", "shut, open: a REACH is CLOSED, or no more");
        three();
        days("shut low;", 1);
        lived(1, 0, 0, 0, 0);
        gives("CLOSED", x.told(7), 2);
        days("shut up;open low;", 2);
        lived(2, 0, 0, 0, 0);
        gives("CLOSED", x.told(7), 1);
        days("open up;", 1);
        lived(1, 0, 0, 0, 0);
        gives("none", x.told(7), 0);

        says("4", "What can't be is left out, and MISSED");
        three();
        days("swap a a;lend b b 1;pay c c;pay a b;", 4);
        lived(4, 0, 4, 0, 0);
        days("lend a b 11;lend a b 10;lend a b 1;swap b c;", 4);
        lived(4, 0, 3, 0, 0);
        gives("one LOAN", x.told(8), 1);
        days("shut up;shut up;open up;open up;flow 5;flow 5;", 6);
        lived(6, 0, 0, 0, 0);
        three();
        days("loop 13;lend c a 1;end;", 2);
        lived(14, 0, 1, 0, 0);
        gives("twelve", x.told(8), 12);
        three();
        days("loop 99;pass;end;pass;pass;", 4);
        lived(102, 99, 2, 0, 0);
        gives("SPAN", x.told(6), 99);

        says("4", "pay: the first lends the second what it owes it, or what it can");
        three();
        days("lend a b 4;pass;pay b a;pay b a;", 4);
        lived(4, 1, 1, 0, 0);
        gives("all of it", x.debts(), 0);
        gives("one LOAN", x.told(8), 1);
        gives("of four", x.slot(2, 2), 4);
        three();
        days("lend c a 30;pass;pay a c;pay a c;", 4);
        lived(4, 1, 1, 0, 0);
        gives("what it can", x.owed(0, 2), 20);
        three();
        days("lend c a 30;pass;lend a b 4;pay a c;", 4);
        lived(4, 1, 0, 0, 0);
        gives("what is left of its own", x.owed(0, 2), 24);
        three();
        days("lend a b 1;pass;pay b a;", 3);
        lived(3, 1, 0, 0, 0);
        gives("one minute", x.owed(1, 0), 0);
        three();
        days("lend a b 4;pass;loop 12;lend b c 1;end;pay b a;", 5);
        lived(16, 1, 1, 0, 0);
        gives("a 13th", x.owed(1, 0), 4);

        says("4", "loop n (1 to 99): as often");
        valley("", 0);
        days("loop 1;pass;end;", 2);
        lived(2, 1, 0, 0, 0);
        valley("", 0);
        days("loop 99;pass;end;", 2);
        lived(100, 99, 0, 0, 0);
        valley("", 0);
        days("loop 3;loop 4;loop 5;pass;end;end;end;", 4);
        lived(1 + 3 + 12 + 60, 60, 0, 0, 0);
        valley("", 0);
        days("loop 5;stop;end;pass;", 3);
        lived(2, 0, 0, 0, 0);

        says("4", "At most 300 STEPS");
        valley("", 0);
        days("loop 99;flow 1;flow 2;flow 3;end;flow 4;", 5);
        lived(299, 0, 0, 0, 0);
        gives("HEAD", x.told(0), 4);
        days("loop 99;flow 1;flow 2;flow 3;end;flow 4;flow 5;", 6);
        lived(300, 0, 0, 0, 0);
        gives("the 300th is done", x.told(0), 5);
        days("loop 99;flow 1;flow 2;flow 3;end;flow 4;flow 5;flow 6;", 7);
        lived(300, 0, 0, 0, 1);
        gives("the 301st is not", x.told(0), 5);
        days("loop 99;flow 1;flow 2;flow 3;end;flow 4;flow 5;stop;", 7);
        lived(300, 0, 0, 0, 1);
        days("loop 99;flow 1;flow 2;flow 3;end;flow 4;loop 2;end;", 6);
        lived(300, 0, 0, 0, 0);
        days("loop 99;flow 1;flow 2;flow 3;end;flow 4;loop 2;flow 7;end;", 7);
        lived(300, 0, 0, 0, 1);
        gives("within it", x.told(0), 4);
        days("loop 99;loop 99;flow 1;end;end;", 3);
        lived(300, 0, 0, 0, 1);
        says("4", "when, loop count as one each time they are come to from ahead; end does not");
        three();
        days("loop 99;loop 99;end;end;", 2);
        lived(100, 0, 0, 0, 0);
        days("loop 99;loop 99;loop 99;end;end;end;", 3);
        lived(300, 0, 0, 0, 1);
        days("loop 9;when shut up;pass;end;end;", 3);
        lived(10, 0, 0, 0, 0);
        days("loop 99;when owes a=0;when owes b=0;end;end;end;", 3);
        lived(199, 0, 0, 0, 0);
        days("", 0);
        lived(0, 0, 0, 0, 0);
    }

    private static int drawOf(int seed, int nth) {
        long s = seed;
        for (int k = 0; k < nth; k++) {
            s = (s * 2753 + 10559) % 65536;
        }
        return (int) (s / 8 % 16);
    }

    private static void draws() {
        int[] seeds = {0, 1, 2, 63, 4096, 9998, 9999};
        for (int seed : seeds) {
            says("4", "dry n (0 to 16): a draw by 16: less than that: HEAD is halved (rounded down)");
            valley("", 0);
            for (int nth = 1; nth <= 3; nth++) {
                int draw = drawOf(seed, nth);
                String ahead = times(nth - 1, "dry 0;") + "flow 7;";
                days(ahead + "dry " + draw + ";", nth + 1);
                x.live(seed);
                gives("not less than " + draw, x.told(0), 7);
                gives("halved", x.lived(2), 0);
                days(ahead + "dry " + (draw + 1) + ";", nth + 1);
                x.live(seed);
                gives("less than " + (draw + 1), x.told(0), 3);
                gives("halved", x.lived(2), 1);
            }
        }
        due("a draw told by hand: 10,559 by 8 is 1,319, by 16 is 7", drawOf(0, 1), 7);

        says("4", "HEAD is halved (rounded down)");
        days("flow 999;loop 10;dry 16;end;", 3);
        gives("live", x.live(0), 12);
        gives("HEAD", x.told(0), 0);
        days("flow 999;loop 9;dry 16;end;", 3);
        x.live(9999);
        gives("HEAD", x.told(0), 1);
        gives("halved", x.lived(2), 9);
        days("flow 1;loop 9;dry 0;end;", 3);
        x.live(9999);
        gives("never", x.told(0), 1);

        says("4", "LIVED by a seed (0 to 9,999): all is as it is then");
        days("flow 5;", 1);
        refused("below 0", x.live(-1), 1);
        refused("10,000", x.live(10000), 1);
        refused("far below", x.live(MIN), 1);
        refused("far above", x.live(MAX), 1);
        gives("not LIVED", x.told(0), 100);
        refused("not LIVED", x.lived(0), 6);
        gives("0", x.live(0), 1);
        gives("9,999", x.live(9999), 1);
        gives("all is as it is then", x.told(0), 5);

        says("53", "how many STEPS were done (1; 6: no DAYS)");
        refused("1 is ahead of 6", x.live(-1), 1);
        refused("1 is ahead of 6", x.live(10000), 1);
        refused("no DAYS", x.live(0), 6);
        days("", 0);
        gives("DAYS of no STEPS", x.live(0), 0);

        says("54", "what 0: SPANS that passed");
        x.pass();
        x.pass();
        days("pass;", 1);
        x.live(0);
        gives("of that live() alone", x.lived(0), 1);
        gives("SPAN", x.told(6), 3);

        says("54", "Of live() latest with STATUS 0");
        int[] whats = {-1, 4, MIN, MAX};
        for (int what : whats) {
            refused("1 is ahead of 6", x.lived(what), 1);
        }
        for (int what = 0; what < 4; what++) {
            refused("there was none", x.lived(what), 6);
        }
        x.live(0);
        refused("STATUS 6 is none", x.lived(0), 6);
        badDays("pass;dry 16;pay", 2, 15);
        days("pass;dry 16;", 2);
        x.live(0);
        gives("SPANS", x.lived(0), 1);
        gives("halved", x.lived(2), 1);
        x.live(-1);
        gives("STATUS 1 leaves it", x.lived(0), 1);
        valley("", 0);
        x.live(0);
        gives("STATUS 6 leaves it", x.lived(0), 1);
        for (int what : whats) {
            refused("1", x.lived(what), 1);
        }
        days("", 0);
        x.live(0);
        gives("the latest one", x.lived(0), 0);
        gives("the latest one", x.lived(2), 0);
    }

    private static void odds() {
        says("55", "so many seeds (1 to 10) from one on the ACCOUNT of a FIELD is so many litres (0 to 9,999) or more");
        three();
        days("pass;", 1);
        fraction("less", x.odds(0, 89, 0, 1), 1, 1);
        fraction("just so many", x.odds(0, 90, 0, 1), 1, 1);
        fraction("more", x.odds(0, 91, 0, 1), 0, 1);
        fraction("0", x.odds(0, 0, 0, 10), 1, 1);
        fraction("9,999", x.odds(2, 9999, 0, 10), 0, 1);
        valley("head 999;span 11 begins 0;reach r loses 0 in 1;field x on r shares 1 needs 0;", 1);
        days("pass;", 1);
        fraction("9,999 of 10,989", x.odds(0, 9999, 9990, 10), 1, 1);
        valley("head 909;span 11 begins 0;reach r loses 0 in 1;field x on r shares 1 needs 0;", 1);
        days("pass;", 1);
        fraction("9,999 of 9,999", x.odds(0, 9999, 0, 1), 1, 1);

        int[] firsts = {0, 1, 50, 9990};
        for (int first : firsts) {
            for (int n = 1; n <= 10; n += 3) {
                says("55", "in how many of so many seeds (1 to 10) from one on");
                valley("head 2;span 1 begins 0;reach r loses 0 in 1;field x on r shares 1 needs 0;", 1);
                days("dry 8;pass;", 2);
                int reached = 0;
                for (int seed = first; seed < first + n; seed++) {
                    reached += drawOf(seed, 1) < 8 ? 0 : 1;
                }
                did("odds", x.odds(0, 2, first, n));
                due("so many of " + n, x.top() * n, reached * x.bottom());
            }
        }

        says("55", "1: the last above 9,999, too; 6: no DAYS");
        three();
        denied("no DAYS", x.odds(0, 0, 0, 1), 6);
        denied("1 is ahead of 6", x.odds(3, 0, 0, 1), 1);
        days("pass;", 1);
        fraction("the last seed", x.odds(0, 0, 9999, 1), 1, 1);
        fraction("the last ten", x.odds(0, 0, 9990, 10), 1, 1);
        denied("one above", x.odds(0, 0, 9991, 10), 1);
        denied("one above", x.odds(0, 0, 9999, 2), 1);
        denied("the first above", x.odds(0, 0, 10000, 1), 1);
        int[][] bad = {{-1, 0, 0, 1}, {3, 0, 0, 1}, {0, -1, 0, 1}, {0, 10000, 0, 1}, {0, 0, -1, 1}, {0, 0, -1, 2},
            {0, 0, 0, 0}, {0, 0, 0, 11}, {0, 0, 0, -1}, {0, 0, MAX, 10}, {0, 0, MIN, 10}, {0, 0, 0, MIN},
            {0, 0, 0, MAX}, {MIN, 0, 0, 1}, {MAX, 0, 0, 1}, {0, MIN, 0, 1}, {0, MAX, 0, 1}};
        for (int[] b : bad) {
            denied("odds " + b[0] + "," + b[1] + "," + b[2] + "," + b[3], x.odds(b[0], b[1], b[2], b[3]), 1);
        }
        told("the FRACTION stays", 1, 1);

        says("55", "all stays as it is");
        three();
        x.lend(0, 1, 2);
        x.close(1, true);
        x.pass();
        x.lend(0, 2, 3);
        days("pass;swap a c;shut up;open low;flow 9;dry 16;lend a b 1;loop 9;pass;end;", 9);
        x.tray(0, 2, 1);
        x.write(0, 0, 6);
        fraction("odds", x.odds(0, 1, 5, 10), 1, 1);
        gives("HEAD", x.told(0), 12);
        gives("SPAN", x.told(6), 1);
        gives("CLOSED", x.told(7), 2);
        gives("LOANS", x.told(8), 1);
        gives("ORDER", x.order(0), 0);
        gives("OWED", x.owed(2, 0), 3);
        gives("OWED", x.owed(1, 0), 2);
        gives("ACCOUNT", x.account(0), 72);
        refused("lived", x.lived(0), 6);
        gives("TRAYS", x.read(0, 0), 6);
        refused("MARKS", x.back(), 6);
        gives("DAYS", x.live(5), 17);
    }

    // ---- MARKS

    private static void marks() {
        says("4", "MARKS, at most 3");
        for (int k = 1; k <= 3; k++) {
            gives("mark", x.mark(), k);
        }
        refused("a 4th", x.mark(), 4);
        gives("back", x.back(), 2);
        gives("a 3rd again", x.mark(), 3);
        refused("a 4th", x.mark(), 4);
        for (int k = 2; k >= 0; k--) {
            gives("back", x.back(), k);
        }
        refused("none is left", x.back(), 6);
        gives("a first again", x.mark(), 1);

        says("57", "All is taken back to the latest MARK: how many there are left (6)");
        refused("none", x.back(), 6);
        for (int head = 1; head <= 3; head++) {
            x.head(head);
            x.mark();
        }
        x.head(4);
        refused("a 4th", x.mark(), 4);
        for (int head = 3; head >= 1; head--) {
            gives("back", x.back(), head - 1);
            gives("HEAD", x.told(0), head);
        }
        x.head(9);
        refused("none", x.back(), 6);
        gives("nothing else changes", x.told(0), 9);

        says("4", "the VALLEY, what is CLOSED, the ORDER, LOANS, what is OWED, ACCOUNTS, the SPAN, HEAD, the DAYS are kept");
        three();
        x.swap(0, 1);
        x.pass();
        x.lend(2, 0, 4);
        x.close(0, true);
        x.head(33);
        days("flow 34;", 1);
        x.mark();
        valley("head 1;", 0);
        x.pass();
        x.back();
        gives("FIELDS", x.told(5), 3);
        gives("REACHES", x.told(3), 2);
        gives("OWNERS", x.told(4), 2);
        gives("SPAN's minutes", x.told(1), 60);
        gives("CLOSED", x.told(7), 1);
        gives("ORDER", x.order(0), 1);
        gives("LOANS", x.told(8), 1);
        gives("SLOTS", x.slots(), 4);
        gives("OWED", x.owed(0, 2), 4);
        gives("ACCOUNT", x.account(0), 90);
        gives("SPAN", x.told(6), 1);
        gives("HEAD", x.told(0), 33);
        gives("DAYS", x.live(0), 1);
        gives("which were done", x.told(0), 34);
        days("shut up;open low;", 2);
        badDays("shut upper;", 3, 5);

        says("4", "all is taken back to the latest MARK");
        richState();
        x.mark();
        otherState();
        x.mark();
        valley("", 0);
        gives("back to the other one", x.back(), 1);
        gives("FIELDS", x.told(5), 2);
        gives("OWED", x.owed(0, 1), 6);
        gives("back", x.back(), 0);
        richStateIs();
        says("4", "all is taken back to the latest MARK");
        x.mark();
        richState();
        x.mark();
        otherState();
        gives("back", x.back(), 1);
        richStateIs();
        gives("back to the first", x.back(), 0);
        gives("a new object's VALLEY", x.told(5), 0);
        gives("HEAD", x.told(0), 100);

        says("4", "which is gone then");
        x.mark();
        three();
        gives("back", x.back(), 0);
        gives("no FIELDS", x.told(5), 0);
        three();
        refused("gone", x.back(), 6);
        gives("FIELDS", x.told(5), 3);
        x.mark();
        x.lend(0, 1, 1);
        gives("what comes behind a MARK leaves it", x.back(), 0);
        gives("LOANS", x.told(8), 0);
        gives("OWED", x.owed(1, 0), 0);
    }

    private static void richState() {
        valley("head 24;span 30 begins 1430;reach up loses 1 in 4 shut 5 to 9;reach low of up loses 1 in 3 carries 9;"
                + "owner o;field a on low shares 1 needs 5 by o;field b on up shares 2 needs 6;", 2);
        x.swap(0, 1);
        x.pass();
        x.lend(1, 0, 3);
        x.lend(0, 1, 1);
        x.lend(1, 0, 2);
        days("shut low;when owes a>3;swap b a;lend b a 4;end;when rich a<2;flow 9;end;loop 2;pay a b;end;", 8);
    }

    /** As unlike that as can be. */
    private static void otherState() {
        valley("head 3;span 9 begins 7;owner p;owner q;reach r loses 0 in 1;reach s loses 2 in 5 shut 1 to 2;"
                + "reach t of s loses 3 in 7;field y on r shares 4 needs 1 by q;field z on t shares 5 needs 2 by p;", 2);
        x.close(2, true);
        x.pass();
        x.pass();
        x.lend(1, 0, 4);
        x.lend(1, 0, 1);
        x.pass();
        x.lend(1, 0, 1);
        x.head(44);
        days("loop 3;when rich y>5;open t;end;end;when shut r;pay y z;lend z y 7;end;flow 7;swap y z;", 8);
    }

    private static void richStateIs() {
        int[] told = {24, 30, 1430, 2, 1, 2, 1, 0, 3};
        for (int what = 0; what < told.length; what++) {
            gives("told " + what, x.told(what), told[what]);
        }
        int[][] reaches = {{NONE, 1, 4, NONE, 5, 9}, {0, 1, 3, 9, NONE, NONE}};
        int[][] fields = {{1, 1, 5, 0}, {0, 2, 6, NONE}};
        for (int k = 0; k < 2; k++) {
            for (int what = 0; what < 6; what++) {
                due("reach " + k + "," + what, x.reach(k, what), reaches[k][what]);
            }
            for (int what = 0; what < 4; what++) {
                due("field " + k + "," + what, x.field(k, what), fields[k][what]);
            }
        }
        gives("ORDER", x.order(0), 0);
        int[][] slots = {{0, 0, 9}, {1, 9, 1}, {1, 10, 15}, {0, 25, 2}, {0, 27, 3}};
        gives("SLOTS", x.slots(), slots.length);
        for (int k = 0; k < slots.length; k++) {
            for (int what = 0; what < 3; what++) {
                gives("slot " + k + "," + what, x.slot(k, what), slots[k][what]);
            }
        }
        gives("OWED", x.owed(0, 1), 4);
        gives("OWED", x.owed(1, 0), 0);
        fraction("RATE", x.rate(0), 6, 1);
        gives("SHUT from 5 to 9", x.lets(0, 15), 0);
        gives("SHUT from 5 to 9", x.lets(0, 19), 1);
        gives("ACCOUNT", x.account(0), 60);
        gives("ACCOUNT", x.account(1), 18 * 16);
        badDays("shut r;", 3, 5);
        badDays("swap a y;", 3, 7);
        gives("the DAYS", x.live(0), 8);
        gives("MISSED: the swap, the second pay", x.lived(1), 2);
        gives("CLOSED", x.told(7), 2);
        gives("HEAD stays", x.told(0), 24);
        gives("LOANS", x.told(8), 5);
    }

    public static void main(String[] args) {
        newObject();
        trays();
        pourings();
        gauges();
        suspects();
        spans();
        dayFaults();
        tests();
        steps();
        draws();
        odds();
        marks();
        finish("the edges of TRAYS, SPANS and MARKS hold");
    }
}
