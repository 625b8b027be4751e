/** What each promise says, with the edges that the document names and with wrong inputs. */
public final class Promises extends Checks {
    // ---- promises 1 to 8

    private static void newObject() {
        begin("1 new object");
        due("status", x.status(), 0);
        due("top", x.top(), 0);
        due("bottom", x.bottom(), 1);
        due("fault", x.fault(0), NONE);
        due("place", x.fault(1), NONE);
        int[] told = {100, 1440, 0, 0, 0, 0, 0, 0, 0};
        for (int what = 0; what < told.length; what++) {
            gives("told " + what, x.told(what), told[what]);
        }
        for (int tray = 0; tray < 4; tray++) {
            refused("read", x.read(tray, 0), 2);
        }
        refused("valley of more than the tape", x.valley(1), 1);
        refused("back", x.back(), 6);
        refused("live", x.live(0), 6);
        refused("lived", x.lived(0), 6);
        gives("driest without FIELDS", x.driest(), 1440);
        fraction("runsOut at the head", x.runsOut(NONE), 144000, 1);
    }

    private static void statusAndFraction() {
        begin("2 to 4 status, top, bottom");
        refused("told", x.told(9), 1);
        x.top();
        x.bottom();
        x.fault(0);
        x.fault(7);
        x.feed(0, 0, 0, 0, 0);
        due("status stays behind calls that have none", x.status(), 1);
        x.tray(0, 2, 3);
        due("status of a call that can be", x.status(), 0);
        x.write(0, 0, 4);
        x.write(0, 1, 6);
        x.write(0, 2, -1);
        fraction("a whole one", x.mean(0, 3), 5, 1);
        x.write(0, 1, 3);
        fraction("halves", x.mean(0, 2), 7, 2);
        denied("a call that tells none", x.mean(0, 61), 1);
        due("top stays", x.top(), 7);
        due("bottom stays", x.bottom(), 2);
        x.tray(0, 2, 3);
        fraction("0 is 0 by 1", x.mean(0, 3), 0, 1);
    }

    private static void trays() {
        begin("5 tray");
        int[][] bad = {{-1, 0, 1}, {4, 0, 1}, {0, -1, 1}, {0, 4, 1}, {0, 0, -1}, {0, 0, 61}, {MIN, MAX, MAX}};
        for (int[] b : bad) {
            denied("tray " + b[0] + "," + b[1] + "," + b[2], x.tray(b[0], b[1], b[2]), 1);
        }
        refused("still missing", x.read(0, 0), 2);
        did("of none", x.tray(0, 0, 0));
        refused("has no place", x.read(0, 0), 3);
        did("of 60", x.tray(3, 3, 60));
        gives("its last", x.read(3, 59), 0);
        x.write(3, 59, 8);
        did("again", x.tray(3, 3, 60));
        gives("0 again", x.read(3, 59), 0);

        begin("6, 7 write, read");
        long v = 0x1234_5678_9ABC_DEF0L;
        long[] cut = {(byte) v, (short) v, (int) v, v};
        for (int sort = 0; sort < 4; sort++) {
            x.tray(sort, sort, 2);
            did("write", x.write(sort, 1, v));
            gives("read of sort " + sort, x.read(sort, 1), cut[sort]);
            did("write", x.write(sort, 0, -1));
            gives("read of -1", x.read(sort, 0), -1);
            did("write", x.write(sort, 0, 255));
            gives("read of 255", x.read(sort, 0), sort == 0 ? -1 : 255);
        }
        int[] places = {-1, 2, 60, MIN, MAX};
        for (int place : places) {
            denied("write at " + place, x.write(0, place, 1), 3);
            refused("read at " + place, x.read(0, place), 3);
        }
        denied("write", x.write(4, 0, 1), 1);
        denied("write", x.write(-1, 0, 1), 1);
        refused("read", x.read(4, 0), 1);
        x = new WaterTurns();
        denied("write, MISSING", x.write(0, -1, 1), 2);
        refused("read, MISSING", x.read(0, 99), 2);
    }

    private static void pour() {
        begin("8 pour");
        x.tray(0, 1, 5);
        x.tray(1, 1, 3);
        x.tray(2, 2, 3);
        for (int k = 0; k < 5; k++) {
            x.write(0, k, 10 + k);
        }
        did("to another", x.pour(0, 2, 1, 0, 3));
        gives("first", x.read(1, 0), 12);
        gives("last", x.read(1, 2), 14);
        did("up along itself", x.pour(0, 0, 0, 1, 4));
        int[] up = {10, 10, 11, 12, 13};
        for (int k = 0; k < 5; k++) {
            gives("place " + k, x.read(0, k), up[k]);
        }
        did("down along itself", x.pour(0, 1, 0, 0, 4));
        int[] down = {10, 11, 12, 13, 13};
        for (int k = 0; k < 5; k++) {
            gives("place " + k, x.read(0, k), down[k]);
        }
        did("none", x.pour(0, 0, 1, 0, 0));
        denied("from", x.pour(4, 0, 0, 0, 1), 1);
        denied("to", x.pour(0, 0, -1, 0, 1), 1);
        denied("place", x.pour(0, -1, 3, 0, 1), 1);
        denied("at", x.pour(0, 0, 3, -1, 1), 1);
        denied("many", x.pour(0, 0, 3, 0, -1), 1);
        denied("MISSING ahead of 8, 3", x.pour(2, 9, 3, 9, 9), 2);
        denied("unlike ahead of 3", x.pour(0, 9, 2, 9, 9), 8);
        denied("too few", x.pour(0, 0, 1, 0, 4), 3);
        denied("too few from there", x.pour(0, 3, 1, 0, 3), 3);
        denied("too few to there", x.pour(0, 0, 1, 2, 2), 3);
        denied("far beyond", x.pour(0, MAX, 1, MAX, MAX), 3);
        gives("nothing changed", x.read(1, 0), 12);
    }

    // ---- promises 9 to 16

    private static void tape() {
        begin("9 feed");
        refused("told", x.told(-1), 1);
        for (int k = 1; k <= 45; k++) {
            due("feed " + k, x.feed(0x20202020, 0x0A0A0A0A, 0x20202020, 0x20202020, 0x20202020), 20 * k);
        }
        due("a 46th", x.feed(0, 0, 0, 0, 0), NONE);
        due("feed has no status", x.status(), 1);
        refused("more than the tape", x.valley(901), 1);
        refused("more than 300", x.days(301), 1);
        gives("900 blanks", x.valley(900), 0);
        refused("the tape is empty then", x.valley(1), 1);
        gives("none of none", x.valley(0), 0);
        due("highest byte first", x.feed(0x68656164, 0x20373B20, 0, 0, 0), 20);
        gives("head 7;", x.valley(8), 0);
        gives("told", x.told(0), 7);
        due("feed", x.feed(0x68656164, 0x20383B00, 0, 0, 0), 20);
        refused("below 0", x.valley(-1), 1);
        refused("days below 0", x.days(MIN), 1);
        gives("the tape stayed", x.valley(7), 0);
        gives("told", x.told(0), 8);
    }

    private static void valleys() {
        begin("10 valley");
        three();
        gives("HEAD", x.told(0), 12);
        gives("minutes", x.told(1), 60);
        valley("head5;span 7begins 8;", 0);
        gives("HEAD", x.told(0), 5);
        gives("minutes", x.told(1), 7);
        gives("BEGINS", x.told(2), 8);
        valley("", 0);
        gives("HEAD without", x.told(0), 100);
        gives("SPAN without", x.told(1), 1440);
        valley("head 0999;span 0001 begins 1439 ;\n\n reach a loses 0 in 1 carries 999 shut 1439 to 1440;", 0);
        valley("reach a loses 11 in 12 carries 1 shut 0 to 1;field abcdefgh on a shares 99 needs 9999;", 1);

        three();
        x.close(1, true);
        x.swap(0, 2);
        x.pass();
        x.lend(0, 1, 3);
        days("pass;", 1);
        badValley(THREE + "head 3;", 5, THREE.length());
        gives("the old one stays: CLOSED", x.told(7), 2);
        gives("LOANS", x.told(8), 1);
        gives("SPAN", x.told(6), 1);
        gives("ORDER", x.order(0), 2);
        gives("OWED", x.owed(1, 0), 3);
        refused("the tape is empty behind a FAULT", x.valley(1), 1);
        three();
        gives("nothing is CLOSED", x.told(7), 0);
        gives("nothing LENT", x.told(8), 0);
        gives("SPAN 0", x.told(6), 0);
        gives("nothing swapped", x.order(0), 0);
        gives("nothing OWED", x.owed(1, 0), 0);
        gives("ACCOUNTS are 0", x.account(0), 0);
        refused("no DAYS", x.live(1), 6);
    }

    private static void valleyFaults() {
        begin("10, 12 FAULTS of a VALLEY");
        String r = "reach a loses 1 in 2;";
        badValley("Head 5;", 1, 0);
        badValley("head\t5;", 1, 4);
        badValley("head 12345;", 1, 5);
        badValley("head " + times(50, "1") + ";", 1, 5);
        badValley("reach 12345", 1, 6);
        badValley("head " + (char) 233, 1, 5);
        badValley("head 5&", 1, 6);
        badValley("head", 2, 4);
        badValley("head 5  \n", 2, 9);
        badValley("head ;", 2, 5);
        badValley("head five;", 2, 5);
        badValley(";", 2, 0);
        badValley("5", 2, 0);
        badValley("turn", 2, 0);
        badValley("headhead 5;", 2, 0);
        badValley("head 5;;", 2, 7);
        badValley("head 5 5;", 2, 7);
        badValley("head < 5;", 2, 5);
        badValley("span 5;", 2, 6);
        badValley("reach", 2, 5);
        badValley("reach 5", 2, 6);
        badValley("reach abcdefghi loses", 2, 6);
        badValley("owner anybodyelse;", 2, 6);
        badValley("reach a shut", 2, 8);
        badValley("reach a of abcdefghi", 2, 11);
        badValley("reach a of stop", 2, 11);
        badValley("reach a loses 1 in 2 shut 5 to 6 carries", 2, 33);
        badValley(r + "field x shares", 2, 29);
        badValley(r + "field x on a needs", 2, 34);
        badValley(r + "field x on a shares 1;", 2, 42);
        badValley(r + "field x on a shares 1 needs 1 by;", 2, 53);
        String[] words = ("head span begins reach of loses in carries shut to owner field on shares needs by open swap "
                + "lend pay flow dry pass when turn owes rich loop end stop").split(" ");
        due("words that are no NAMES", words.length, 30);
        for (String word : words) {
            badValley("owner " + word + ";", 2, 6);
        }
        valley("owner heads;owner hea;", 0);

        badValley(r + "reach a", 3, 27);
        badValley(r + "owner a", 3, 27);
        badValley(r + "field a", 3, 27);
        badValley("owner o;" + r + "field o", 3, 35);
        badValley("owner o;owner o;", 3, 14);
        badValley("reach a of a", 3, 11);
        badValley("owner o;reach a of o", 3, 19);
        badValley(r + "field x on x", 3, 32);
        badValley("owner o;field x on o", 3, 19);
        badValley(r + "field x on a shares 1 needs 1;field y on x", 3, 62);
        badValley(r + "field x on a shares 1 needs 1 by a", 3, 54);
        badValley(r + "owner o;field x on a shares 1 needs 1 by x", 3, 62);

        begin("10, 12 FAULTS of a VALLEY");
        badValley("head 1000;", 4, 5);
        badValley("span 0 begins 0;", 4, 5);
        badValley("span 1441 begins 0;", 4, 5);
        badValley("span 1440 begins 1440;", 4, 17);
        badValley("reach a loses 12 in 12", 4, 14);
        badValley("reach a loses 11 in 13", 4, 20);
        badValley("reach a loses 2 in 2", 4, 19);
        badValley("reach a loses 0 in 0", 4, 19);
        badValley("reach a loses 0 in 1 carries 0", 4, 29);
        badValley("reach a loses 0 in 1 carries 1000", 4, 29);
        badValley("reach a loses 0 in 1 shut 1440 to 1441", 4, 26);
        badValley("reach a loses 0 in 1 shut 7 to 7", 4, 31);
        badValley("reach a loses 0 in 1 shut 1439 to 1441", 4, 34);
        badValley(r + "field x on a shares 0", 4, 41);
        badValley(r + "field x on a shares 100", 4, 41);

        badValley("head 5;head 1000;", 5, 7);
        badValley("span 5 begins 0;span", 5, 16);
        badValley("head 5;span 5 begins 0; head", 5, 24);

        StringBuilder reaches = new StringBuilder();
        StringBuilder fields = new StringBuilder("reach a loses 0 in 1;");
        StringBuilder owners = new StringBuilder();
        for (char c = 'a'; c < 'k'; c++) {
            reaches.append("reach ").append(c).append(" loses 0 in 1;");
            fields.append("field x").append(c).append(" on a shares 1 needs 0;");
        }
        for (char c = 'a'; c < 'g'; c++) {
            owners.append("owner ").append(c).append(';');
        }
        valley(reaches.toString(), 0);
        badValley(reaches + "reach 5", 6, reaches.length());
        valley(fields.toString(), 10);
        badValley(fields + "field", 6, fields.length());
        valley(owners.toString(), 0);
        badValley(owners + "owner", 6, owners.length());
        gives("the latest one that was taken", x.told(4), 6);
    }

    private static void faultAnswers() {
        begin("12 fault");
        due("ahead of any", x.fault(0), NONE);
        due("ahead of any", x.fault(1), NONE);
        x.valley(5);
        due("behind a STATUS 1", x.fault(0), NONE);
        badValley("head x", 2, 5);
        due("others", x.fault(2), NONE);
        due("others", x.fault(-1), NONE);
        x.valley(50);
        x.days(50);
        due("stays behind a STATUS 1", x.fault(0), 2);
        due("its place", x.fault(1), 5);
        days("", 0);
        badDays("pass", 2, 4);
    }

    private static void toldThings() {
        begin("13 told");
        three();
        int[] told = {12, 60, 0, 2, 2, 3, 0, 0, 0};
        for (int what = 0; what < told.length; what++) {
            gives("told " + what, x.told(what), told[what]);
        }
        x.head(7);
        x.close(0, true);
        x.close(1, true);
        x.pass();
        x.lend(0, 1, 1);
        int[] then = {7, 60, 0, 2, 2, 3, 1, 3, 1};
        for (int what = 0; what < then.length; what++) {
            gives("then told " + what, x.told(what), then[what]);
        }
        for (int what : new int[] {-1, 9, MIN, MAX}) {
            refused("told " + what, x.told(what), 1);
        }

        begin("14 reach");
        valley("reach a loses 1 in 4;reach b of a loses 0 in 12 carries 8 shut 3 to 9;", 0);
        int[][] cells = {{NONE, 1, 4, NONE, NONE, NONE}, {0, 0, 12, 8, 3, 9}};
        for (int reach = 0; reach < 2; reach++) {
            for (int what = 0; what < 6; what++) {
                due("reach " + what, x.reach(reach, what), cells[reach][what]);
                due("its status", x.status(), cells[reach][what] == NONE ? 6 : 0);
            }
        }
        int[][] bad = {{-1, 0}, {2, 0}, {0, -1}, {0, 6}, {MIN, MIN}, {MAX, MAX}};
        for (int[] b : bad) {
            refused("reach", x.reach(b[0], b[1]), 1);
        }

        begin("15 field");
        three();
        int[][] of = {{0, 1, 90, 0}, {1, 2, 100, 1}, {1, 3, 300, NONE}};
        for (int field = 0; field < 3; field++) {
            for (int what = 0; what < 4; what++) {
                due("field " + what, x.field(field, what), of[field][what]);
                due("its status", x.status(), of[field][what] == NONE ? 6 : 0);
            }
        }
        int[][] none = {{-1, 0}, {3, 0}, {0, -1}, {0, 4}, {MIN, MIN}, {MAX, MAX}};
        for (int[] b : none) {
            refused("field", x.field(b[0], b[1]), 1);
        }

        begin("16 below");
        three();
        gives("below 0", x.below(0), 7);
        gives("below 1", x.below(1), 6);
        refused("below", x.below(2), 1);
        refused("below", x.below(-1), 1);
    }

    // ---- promises 17 to 25

    private static void turns() {
        begin("17 order");
        String two = "reach a loses 0 in 1;reach b loses 0 in 1;reach c of a loses 0 in 1;reach d of b loses 0 in 1;"
                + "reach e of c loses 0 in 1;reach f of a loses 0 in 1;";
        valley(two + "field g on d shares 1 needs 0;field h on f shares 1 needs 0;field i on e shares 1 needs 0;"
                + "field j on a shares 1 needs 0;field k on b shares 1 needs 0;field l on c shares 1 needs 0;"
                + "field m on a shares 1 needs 0;", 7);
        int[] order = {3, 6, 5, 2, 1, 4, 0};
        for (int k = 0; k < order.length; k++) {
            gives("order " + k, x.order(k), order[k]);
        }
        refused("order", x.order(7), 6);
        refused("order", x.order(MAX), 6);
        refused("order", x.order(-1), 1);

        begin("18 turn");
        valley("span 10 begins 0;reach a loses 0 in 1;field x on a shares 1 needs 0;field y on a shares 1 needs 0;"
                + "field z on a shares 1 needs 0;", 3);
        int[][] turns = {{0, 3}, {3, 3}, {6, 4}};
        for (int f = 0; f < 3; f++) {
            gives("turn", x.turn(f, 0), turns[f][0]);
            gives("turn", x.turn(f, 1), turns[f][1]);
        }
        x.lend(2, 0, 2);
        gives("a LOAN leaves the TURN", x.turn(2, 1), 4);
        gives("a LOAN leaves the TURN", x.turn(0, 1), 3);
        int[][] bad = {{-1, 0}, {3, 0}, {0, -1}, {0, 2}, {MAX, MIN}};
        for (int[] b : bad) {
            refused("turn", x.turn(b[0], b[1]), 1);
        }
        valley("span 1 begins 0;reach a loses 0 in 1;field x on a shares 1 needs 0;field y on a shares 9 needs 0;", 2);
        gives("a TURN of no minutes", x.turn(0, 1), 0);
        gives("a TURN of all", x.turn(1, 1), 1);
        gives("SLOTS", x.slots(), 1);

        begin("19 swap");
        three();
        did("swap", x.swap(0, 2));
        gives("order", x.order(0), 2);
        gives("order", x.order(1), 1);
        gives("order", x.order(2), 0);
        gives("TURNS go with it", x.turn(0, 0), 50);
        denied("one and itself", x.swap(1, 1), 1);
        denied("no such", x.swap(0, 3), 1);
        denied("no such", x.swap(-1, 0), 1);
        x.lend(0, 1, 1);
        denied("something is LENT", x.swap(0, 1), 7);
        denied("a number ahead of it", x.swap(0, 0), 1);
        x.pass();
        did("no more, though OWED", x.swap(0, 2));
    }

    private static void loans() {
        begin("20, 21 lend, owed");
        three();
        gives("lend", x.lend(0, 1, 4), 4);
        gives("owed", x.owed(1, 0), 4);
        gives("owed", x.owed(0, 1), 0);
        gives("more", x.lend(0, 1, 2), 6);
        gives("paid back in part", x.lend(1, 0, 5), 0);
        gives("owed", x.owed(1, 0), 1);
        gives("paid back, the rest OWED", x.lend(1, 0, 3), 2);
        gives("owed", x.owed(1, 0), 0);
        gives("owed", x.owed(0, 1), 2);
        refused("its own has not so many left", x.lend(0, 2, 5), 7);
        gives("all that is left", x.lend(0, 2, 4), 4);
        refused("what is borrowed is not its own", x.lend(0, 2, 1), 7);
        int[][] bad = {{0, 0, 1}, {-1, 0, 1}, {0, 3, 1}, {2, 0, 0}, {2, 0, -1}, {2, 0, 1000}, {2, 0, MAX}};
        for (int[] b : bad) {
            refused("lend", x.lend(b[0], b[1], b[2]), 1);
        }
        refused("999 can be, but is too much", x.lend(2, 0, 999), 7);
        for (int k = 5; k < 12; k++) {
            x.lend(2, 0, 1);
            due("a LOAN more", x.status(), 0);
        }
        gives("twelve", x.told(8), 12);
        refused("a 13th", x.lend(2, 0, 1), 4);
        refused("a 13th, ahead of 7", x.lend(2, 0, 999), 4);
        refused("owed", x.owed(1, 1), 1);
        refused("owed", x.owed(3, 0), 1);
        refused("owed", x.owed(0, -1), 1);
        x.pass();
        gives("what is OWED stays", x.owed(0, 1), 2);
        gives("nothing is LENT any more", x.told(8), 0);
        gives("a LOAN again", x.lend(2, 0, 1), 4);
    }

    private static void slots() {
        begin("22, 23 slots, slot");
        three();
        gives("slots", x.slots(), 3);
        x.lend(1, 0, 3);
        x.lend(1, 2, 5);
        x.lend(0, 2, 10);
        gives("slots", x.slots(), 5);
        int[][] due = {{2, 0, 10}, {1, 10, 12}, {2, 22, 5}, {0, 27, 3}, {2, 30, 30}};
        for (int k = 0; k < due.length; k++) {
            for (int what = 0; what < 3; what++) {
                gives("slot " + k + "," + what, x.slot(k, what), due[k][what]);
            }
        }
        refused("slot", x.slot(5, 0), 6);
        refused("slot", x.slot(-1, 0), 6);
        refused("slot", x.slot(0, 3), 1);
        refused("slot", x.slot(99, -1), 1);

        promise = "24 whose";
        int[] minutes = {0, 9, 10, 21, 22, 26, 27, 29, 30, 59};
        int[] fields = {2, 2, 1, 1, 2, 2, 0, 0, 2, 2};
        for (int k = 0; k < minutes.length; k++) {
            gives("whose " + minutes[k], x.whose(minutes[k]), fields[k]);
        }
        refused("whose", x.whose(-1), 1);
        refused("whose", x.whose(60), 1);

        promise = "25 minutes";
        gives("minutes", x.minutes(2, 0), 45);
        gives("minutes", x.minutes(0, 0), 3);
        gives("of these let through", x.minutes(2, 1), 45);
        x.close(1, true);
        gives("minutes", x.minutes(2, 0), 45);
        gives("none let through", x.minutes(2, 1), 0);
        gives("above it", x.minutes(0, 1), 3);
        refused("minutes", x.minutes(3, 0), 1);
        refused("minutes", x.minutes(0, 2), 1);
        refused("minutes", x.minutes(0, -1), 1);
        x = new WaterTurns();
        refused("nobody's", x.whose(1439), 6);
    }

    // ---- promises 26 to 33

    private static void water() {
        begin("26 close");
        three();
        did("close", x.close(1, true));
        gives("set", x.told(7), 2);
        did("again", x.close(1, true));
        gives("set", x.told(7), 2);
        gives("lets", x.lets(1, 0), 0);
        did("open", x.close(1, false));
        gives("set", x.told(7), 0);
        gives("lets", x.lets(1, 0), 1);
        denied("close", x.close(2, true), 1);
        denied("close", x.close(-1, true), 1);

        begin("27 head");
        did("head", x.head(0));
        did("head", x.head(999));
        denied("head", x.head(1000), 1);
        denied("head", x.head(-1), 1);
        gives("told", x.told(0), 999);

        begin("28 lets");
        valley("span 20 begins 1430;reach a loses 0 in 1 shut 1435 to 1440;reach b loses 0 in 1 shut 0 to 3;"
                + "reach c loses 0 in 1 shut 5 to 1432;", 0);
        int[][] shut = {{5, 9}, {10, 12}, {0, 1}, {15, 19}};
        for (int minute = 0; minute < 20; minute++) {
            boolean a = minute >= shut[0][0] && minute <= shut[0][1];
            boolean b = minute >= shut[1][0] && minute <= shut[1][1];
            boolean c = minute <= shut[2][1] || minute >= shut[3][0];
            gives("a in " + minute, x.lets(0, minute), a ? 0 : 1);
            gives("b in " + minute, x.lets(1, minute), b ? 0 : 1);
            gives("c in " + minute, x.lets(2, minute), c ? 0 : 1);
        }
        refused("lets", x.lets(0, 20), 1);
        refused("lets", x.lets(0, -1), 1);
        refused("lets", x.lets(3, 0), 1);

        begin("29 rate");
        three();
        fraction("rate", x.rate(0), 9, 1);
        fraction("rate", x.rate(1), 6, 1);
        x.head(7);
        fraction("rate", x.rate(0), 21, 4);
        fraction("rate", x.rate(1), 7, 2);
        x.close(0, true);
        fraction("RATE stays if CLOSED", x.rate(1), 7, 2);
        denied("rate", x.rate(3), 1);
        due("the FRACTION stays", x.top(), 7);
        valley("head 99;reach a loses 1 in 3 carries 10;field x on a shares 1 needs 0;", 1);
        fraction("at first what it CARRIES, then its loss", x.rate(0), 20, 3);
        valley(deep(10, 1, 12, "head 999;"), 1);
        fraction("ten losses", x.rate(0), 999L / 27 * 25937424601L, 61917364224L / 27);
    }

    /** So many REACHES one below the other, and a FIELD on the last. */
    private static String deep(int many, int loses, int in, String ahead) {
        StringBuilder text = new StringBuilder(ahead);
        for (int k = 0; k < many; k++) {
            text.append("reach r").append((char) ('a' + k));
            if (k > 0) {
                text.append(" of r").append((char) ('a' + k - 1));
            }
            text.append(" loses ").append(loses).append(" in ").append(in).append(';');
        }
        return text.append("field x on r").append((char) ('a' + many - 1)).append(" shares 99 needs 1;").toString();
    }

    private static void waterOfAll() {
        begin("30 water");
        three();
        fraction("water", x.water(0), 90, 1);
        fraction("water", x.water(1), 120, 1);
        fraction("water", x.water(2), 180, 1);
        x.lend(2, 0, 10);
        fraction("water", x.water(0), 180, 1);
        fraction("water", x.water(2), 120, 1);
        x.close(1, true);
        fraction("none comes", x.water(2), 0, 1);
        denied("water", x.water(3), 1);
        denied("water", x.water(-1), 1);
        valley(deep(10, 0, 12, "head 999;"), 1);
        fraction("the most", x.water(0), 999L * 1440, 1);
        gives("compared with itself", x.richest(true), 0);
        valley(deep(10, 11, 12, "head 1;"), 1);
        fraction("the least", x.rate(0), 1, 61917364224L);
        fraction("the least in a day", x.water(0), 5, 214990848);

        begin("31, 32 lost, runsOut");
        three();
        fraction("lost", x.lost(0), 180, 1);
        fraction("lost", x.lost(1), 150, 1);
        fraction("runsOut", x.runsOut(0), 0, 1);
        fraction("at the head", x.runsOut(NONE), 0, 1);
        x.close(1, true);
        fraction("above is lost as ever", x.lost(0), 180, 1);
        fraction("none is lost there", x.lost(1), 0, 1);
        fraction("all that comes runs out", x.runsOut(1), 450, 1);
        x.close(0, true);
        fraction("at the upper one", x.runsOut(0), 720, 1);
        fraction("none comes below", x.runsOut(1), 0, 1);
        fraction("none is lost", x.lost(0), 0, 1);
        valley("head 10;span 10 begins 0;reach a loses 1 in 2 carries 4 shut 0 to 5;field x on a shares 1 needs 0;", 1);
        fraction("beyond what it CARRIES, and SHUT", x.runsOut(0), 80, 1);
        fraction("lost", x.lost(0), 10, 1);
        denied("lost", x.lost(1), 1);
        denied("lost", x.lost(-1), 1);
        denied("runsOut", x.runsOut(1), 1);
        denied("runsOut", x.runsOut(-2), 1);
        valley("head 10;span 10 begins 0;reach a loses 1 in 2 carries 4;", 0);
        fraction("without FIELDS at the head", x.runsOut(NONE), 100, 1);
        fraction("not at a REACH", x.runsOut(0), 0, 1);
        valley("head 10;reach a loses 0 in 1;field x on a shares 1 needs 0;", 1);
        fraction("one FIELD takes it all", x.runsOut(NONE), 0, 1);

        begin("33 waterOf");
        three();
        fraction("anna", x.waterOf(0), 90, 1);
        fraction("ben", x.waterOf(1), 120, 1);
        fraction("nobody", x.waterOf(NONE), 180, 1);
        denied("waterOf", x.waterOf(2), 1);
        denied("waterOf", x.waterOf(-2), 1);
    }

    // ---- promises 34 to 47

    private static void shortOnes() {
        begin("34, 35 lacking, spare");
        three();
        gives("gets it", x.lacking(0), 0);
        gives("gets it", x.lacking(1), 0);
        gives("300 less 180 by 6", x.lacking(2), 20);
        gives("just enough", x.spare(0), 0);
        gives("20 less 17", x.spare(1), 3);
        gives("SHORT", x.spare(2), 0);
        x.head(0);
        refused("no RATE", x.lacking(0), 7);
        gives("spare of such a one", x.spare(0), 0);
        refused("lacking", x.lacking(3), 1);
        refused("lacking", x.lacking(-1), 1);
        refused("spare", x.spare(3), 1);
        valley("head 0;span 9 begins 0;reach a loses 0 in 1 shut 0 to 4;field x on a shares 1 needs 0;", 1);
        gives("NEEDS none", x.lacking(0), 0);
        gives("all of its minutes", x.spare(0), 9);
        valley("head 2;span 9 begins 0;reach a loses 0 in 1 shut 0 to 4;field x on a shares 1 needs 9;", 1);
        gives("SHUT minutes count in SPARE", x.spare(0), 4);
        valley(deep(10, 11, 12, "head 1;"), 1);
        gives("999,999 if it is more", x.lacking(0), 999999);

        begin("36, 37 fewest, neediest");
        three();
        refused("SPARE ones are too few", x.fewest(), 6);
        gives("neediest", x.neediest(), 2);
        x.head(16);
        gives("300 by 8 less 30", x.lacking(2), 8);
        gives("spare", x.spare(0), 2);
        gives("spare", x.spare(1), 7);
        gives("fewest", x.fewest(), 8);
        valley("head 1;span 8 begins 0;reach a loses 0 in 1;field x on a shares 1 needs 1;"
                + "field y on a shares 1 needs 8;", 2);
        gives("lacking", x.lacking(1), 4);
        gives("spare", x.spare(0), 3);
        refused("one too few", x.fewest(), 6);
        three();
        x.head(999);
        gives("none is SHORT", x.fewest(), 0);
        refused("none is SHORT", x.neediest(), 6);
        x.head(0);
        refused("no RATE", x.fewest(), 7);
        refused("no RATE", x.neediest(), 7);
        valley("head 1;span 4 begins 0;reach a loses 0 in 1;field x on a shares 1 needs 3;"
                + "field y on a shares 1 needs 5;field z on a shares 2 needs 5;", 3);
        gives("lacking", x.lacking(0), 2);
        gives("lacking", x.lacking(1), 4);
        gives("lacking", x.lacking(2), 3);
        gives("the most", x.neediest(), 1);
        valley("head 1;span 4 begins 0;reach a loses 0 in 1;field x on a shares 1 needs 3;"
                + "field y on a shares 1 needs 5;field z on a shares 2 needs 6;", 3);
        gives("of several the first", x.neediest(), 1);
        x = new WaterTurns();
        gives("without FIELDS", x.fewest(), 0);
        refused("without FIELDS", x.neediest(), 6);

        begin("38 richest");
        three();
        gives("richest", x.richest(true), 0);
        gives("poorest, of several the first", x.richest(false), 1);
        x.close(0, true);
        gives("all alike", x.richest(true), 0);
        gives("all alike", x.richest(false), 0);
        x = new WaterTurns();
        refused("no FIELDS", x.richest(true), 6);
        refused("no FIELDS", x.richest(false), 6);
    }

    private static void bestOnes() {
        begin("39 mending");
        three();
        gives("mending", x.mending(), 1);
        due("top", x.top(), 150, "how much more");
        gives("it changes nothing: lost", x.lost(1) ? 1 : 0, 1);
        due("top", x.top(), 150, "lost as ever");
        x.close(1, true);
        gives("the other one", x.mending(), 0);
        due("top", x.top(), 30, "how much more");
        x.close(0, true);
        refused("none brings more", x.mending(), 6);
        due("top", x.top(), 30, "the FRACTION stays");
        valley("head 1;span 1 begins 0;reach a loses 1 in 2;field x on a shares 1 needs 0;", 1);
        gives("the least that is more", x.mending(), 0);
        due("bottom", x.bottom(), 2, "half a litre");

        begin("40 off");
        valley("span 10 begins 0;reach a loses 0 in 1;field x on a shares 1 needs 0;field y on a shares 1 needs 0;"
                + "field z on a shares 1 needs 0;", 3);
        fraction("off", x.off(), 2, 3);
        valley("span 12 begins 0;reach a loses 0 in 1;field x on a shares 1 needs 0;field y on a shares 2 needs 0;", 2);
        fraction("off", x.off(), 0, 1);
        x = new WaterTurns();
        denied("no FIELDS", x.off(), 6);

        begin("41, 42 driest, waits");
        String text = "head 9;span 30 begins 0;reach a loses 0 in 1 shut 8 to 12;reach b loses 0 in 1 shut 25 to 28;"
                + "field x on a shares 1 needs 0;field y on b shares 2 needs 0;";
        valley(text, 2);
        gives("driest", x.driest(), 3);
        gives("waits", x.waits(0, 0), 0);
        gives("waits", x.waits(0, 7), 0);
        refused("waits", x.waits(0, 8), 6);
        gives("waits", x.waits(1, 0), 10);
        gives("waits", x.waits(1, 25), 3);
        gives("waits", x.waits(1, 29), 0);
        x.lend(1, 0, 6);
        gives("a SLOT that is borrowed", x.waits(0, 8), 16);
        refused("its own is gone", x.waits(1, 24), 6);
        gives("another REACH lets through", x.driest(), 2);
        x.close(0, true);
        gives("over a border", x.driest(), 10);
        x.head(0);
        gives("RATE 0", x.driest(), 30);
        refused("RATE 0", x.waits(1, 10), 6);
        refused("waits", x.waits(2, 0), 1);
        refused("waits", x.waits(0, 30), 1);
        refused("waits", x.waits(0, -1), 1);

        begin("43 headFor");
        three();
        gives("headFor", x.headFor(0), 12);
        gives("headFor", x.headFor(1), 10);
        gives("headFor", x.headFor(2), 20);
        x.head(0);
        gives("whatever HEAD is", x.headFor(2), 20);
        gives("and it stays", x.told(0), 0);
        x.close(1, true);
        refused("none", x.headFor(1), 6);
        refused("headFor", x.headFor(3), 1);
        valley("head 5;span 1 begins 0;reach a loses 0 in 1 shut 0 to 9;field x on a shares 1 needs 0;", 1);
        gives("NEEDS none", x.headFor(0), 0);
        valley("head 5;span 1 begins 0;reach a loses 0 in 1;field x on a shares 1 needs 999;", 1);
        gives("the last", x.headFor(0), 999);
        valley("head 5;span 1 begins 0;reach a loses 0 in 1;field x on a shares 1 needs 1000;", 1);
        refused("none to 999", x.headFor(0), 6);
    }

    private static void due(String what, long got, long want, String why) {
        due(why + ": " + what, got, want);
    }

    private static void swapsAndDebts() {
        begin("44 shadow");
        three();
        gives("shadow", x.shadow(), 0);
        due("top", x.top(), 390, "how much");
        gives("it closes nothing", x.told(7), 0);
        x.close(0, true);
        refused("none costs any", x.shadow(), 6);
        due("top", x.top(), 390, "the FRACTION stays");
        valley("span 10 begins 0;reach a loses 0 in 1;reach b of a loses 0 in 1;field x on b shares 1 needs 0;", 1);
        gives("of several the first", x.shadow(), 0);
        valley("head 1;span 1 begins 0;reach a loses 0 in 1;field x on a shares 1 needs 0;", 1);
        gives("the least that costs any", x.shadow(), 0);
        due("top", x.top(), 1, "a litre");

        begin("45 bestSwap");
        valley("head 2;span 9 begins 0;reach a loses 0 in 1 shut 0 to 3;reach b loses 0 in 1;"
                + "field x on a shares 1 needs 0;field y on b shares 1 needs 0;field z on b shares 1 needs 0;", 3);
        gives("first", x.bestSwap(0), 0);
        due("top", x.top(), 6, "how much more");
        gives("second", x.bestSwap(1), 1);
        gives("it swaps nothing", x.order(0), 0);
        refused("bestSwap", x.bestSwap(2), 1);
        refused("bestSwap", x.bestSwap(-1), 1);
        x.swap(0, 1);
        refused("none brings more", x.bestSwap(0), 6);
        x.lend(0, 1, 1);
        refused("something is LENT", x.bestSwap(0), 7);
        refused("a number ahead of it", x.bestSwap(2), 1);
        valley("head 1;span 2 begins 0;reach a loses 0 in 1 shut 0 to 1;reach b loses 0 in 1;"
                + "field x on a shares 1 needs 0;field y on b shares 1 needs 0;", 2);
        gives("the least that is more", x.bestSwap(1), 1);
        due("top", x.top(), 1, "a litre");

        begin("46, 47 debts, balance");
        three();
        gives("debts", x.debts(), 0);
        x.lend(0, 1, 3);
        x.lend(2, 1, 4);
        x.lend(2, 0, 5);
        gives("debts", x.debts(), 3);
        gives("anna: 3 less 5", x.balance(0), -2);
        gives("ben", x.balance(1), -7);
        x.lend(1, 0, 3);
        gives("debts", x.debts(), 2);
        gives("anna", x.balance(0), -5);
        x.lend(0, 2, 4);
        gives("-1 is no NONE", x.balance(0), -1);
        refused("balance", x.balance(2), 1);
        refused("balance", x.balance(-1), 1);
        valley("reach a loses 0 in 1;owner o;field x on a shares 1 needs 0 by o;field y on a shares 1 needs 0 by o;", 2);
        x.lend(0, 1, 5);
        gives("from its own to its own", x.balance(0), 0);
    }

    // ---- promises 48 to 50

    private static void gauges() {
        begin("48, 49 mean, gaps");
        x.tray(0, 2, 6);
        int[] readings = {-1, 4, -1, -1, 7, 1000000};
        for (int k = 0; k < readings.length; k++) {
            x.write(0, k, readings[k]);
        }
        fraction("mean", x.mean(0, 5), 11, 2);
        gives("gaps", x.gaps(0, 5), 2);
        gives("gaps", x.gaps(0, 2), 1);
        denied("none is a reading", x.mean(0, 1), 6);
        gives("gaps", x.gaps(0, 1), 1);
        denied("above 999,999", x.mean(0, 6), 5);
        refused("above 999,999", x.gaps(0, 6), 5);
        x.write(0, 5, 999999);
        fraction("mean", x.mean(0, 6), 1000010, 3);
        x.write(0, 5, -2);
        denied("below -1", x.mean(0, 6), 5);
        refused("below -1", x.gaps(0, 6), 5);
        x.tray(2, 2, 2);
        x.write(2, 0, -2);
        denied("the first one, too", x.mean(2, 2), 5);
        refused("the first one, too", x.gaps(2, 1), 5);
        denied("too few, ahead of 5", x.mean(0, 7), 3);
        refused("too few, ahead of 5", x.gaps(0, 7), 3);
        int[][] bad = {{0, 0}, {0, 61}, {-1, 1}, {4, 1}, {3, 0}, {0, -1}, {MAX, MIN}};
        for (int[] b : bad) {
            denied("mean", x.mean(b[0], b[1]), 1);
            refused("gaps", x.gaps(b[0], b[1]), 1);
        }
        denied("MISSING", x.mean(3, 60), 2);
        refused("MISSING", x.gaps(3, 60), 2);
        x.tray(1, 0, 3);
        gives("no gaps", x.gaps(1, 3), 0);

        begin("50 suspects");
        three();
        x.head(13);
        x.tray(0, 1, 3);
        leaks(9, 6, 6, 0);
        leaks(9, 5, 5, 2);
        leaks(8, 5, 5, 1);
        leaks(8, 6, 6, 0);
        leaks(9, 5, 6, 0);
        leaks(9, 5, -1, 2);
        leaks(-1, 5, -1, 3);
        leaks(-1, -1, -1, 0);
        leaks(8, -1, -1, 1);
        leaks(999, 0, 0, 2);
        x.write(0, 1, 1000);
        refused("above 999", x.suspects(0), 5);
        x.write(0, 1, -2);
        refused("below -1", x.suspects(0), 5);
        x.tray(0, 1, 2);
        x.write(0, 1, -2);
        refused("too few, ahead of 5", x.suspects(0), 3);
        refused("MISSING", x.suspects(1), 2);
        refused("no such", x.suspects(4), 1);
        refused("no such", x.suspects(-1), 1);
    }

    private static void leaks(int a, int b, int c, int set) {
        x.write(0, 0, a);
        x.write(0, 1, b);
        x.write(0, 2, c);
        gives("suspects " + a + "," + b + "," + c, x.suspects(0), set);
    }

    // ---- promises 51 to 57

    private static void spans() {
        begin("51, 52 pass, account");
        three();
        x.head(7);
        gives("account", x.account(0), 0);
        gives("pass", x.pass(), 1);
        gives("52 and a half", x.account(0), 52);
        gives("70", x.account(1), 70);
        gives("pass", x.pass(), 2);
        gives("each SPAN rounded", x.account(0), 104);
        x.lend(0, 1, 10);
        gives("pass", x.pass(), 3);
        gives("nothing in its SLOTS", x.account(0), 104);
        gives("nothing is LENT", x.told(8), 0);
        gives("OWED stays", x.owed(1, 0), 10);
        gives("SLOTS are TURNS", x.slots(), 3);
        refused("account", x.account(3), 1);
        refused("account", x.account(-1), 1);
        for (int k = 4; k <= 99; k++) {
            gives("pass", x.pass(), k);
        }
        long was = x.account(1);
        refused("above 99", x.pass(), 4);
        gives("nothing changed", x.account(1), was);
        gives("SPAN", x.told(6), 99);
    }

    private static void dayFaults() {
        begin("11, 12 days");
        three();
        days("", 0);
        days(" \n ", 0);
        days("pass;pass ;stop;", 3);
        days("when shut up;when owes a<1;loop 99;pass;end;end;end;when rich a=9999;end;", 5);
        days("shut up;open low;swap a b;lend a b 999;pay a b;flow 0;flow 999;dry 0;dry 16;loop 1;end;", 10);
        String thirty = times(30, "pass;");
        days(thirty, 30);
        days("loop 1;" + times(29, "pass;") + "end;", 30);
        badDays(thirty + "stop", 6, 150);
        badDays(thirty + "end;", 2, 150);
        badDays("loop 1;" + times(29, "pass;") + "when;", 6, 152);
        days(times(30, "loop1;end;"), 30);
        gives("each of them", x.live(0), 30);
        days("when owes a<999;end;", 1);
        String deep = "loop 2;loop 2;when shut up;";
        days(deep + "end;end;end;", 3);
        badDays(deep + "when", 7, 27);
        badDays(deep + "loop 9;", 7, 27);
        badDays(deep + times(27, "pass;") + "loop", 6, 27 + 135);
        badDays("end;", 2, 0);
        badDays("loop 1;end;end;", 2, 11);
        badDays("loop 1;pass;", 2, 12);
        badDays("loop 1;end", 2, 10);
        badDays("pass", 2, 4);
        badDays("pass ", 2, 5);
        badDays("head 5;", 2, 0);
        badDays("a;", 2, 0);
        badDays("shut 5;", 2, 5);
        badDays("shut abcdefghi;", 2, 5);
        badDays("shut pass;", 2, 5);
        badDays("swap a;", 2, 6);
        badDays("lend a b;", 2, 8);
        badDays("when open up;", 2, 5);
        badDays("when shut up<1;", 2, 12);
        badDays("when owes a;", 2, 11);
        badDays("when owes a 1;", 2, 12);
        badDays("when rich a<b;", 2, 12);
        badDays("flow;", 2, 4);
        badDays("pass 5;", 2, 5);
        badDays("flow 10000;", 1, 5);
        badDays("Pass;", 1, 0);
        badDays("when owes a!1;", 1, 11);
        badDays("shut a;", 3, 5);
        badDays("open anna;", 3, 5);
        badDays("swap up a;", 3, 5);
        badDays("swap a up;", 3, 7);
        badDays("pay a nobody;", 3, 6);
        badDays("when shut b;", 3, 10);
        badDays("when owes ben=1;", 3, 10);
        badDays("lend a b 0;", 4, 9);
        badDays("lend a b 1000;", 4, 9);
        badDays("flow 1000;", 4, 5);
        badDays("dry 17;", 4, 4);
        badDays("loop 0;", 4, 5);
        badDays("loop 100;", 4, 5);
        badDays("when owes a<1000;", 4, 12);
        gives("the latest DAYS that were taken", x.live(5), 7);
        days("swap a a;lend b b 5;pay c c;", 3);
        gives("they can be told", x.live(5), 3);
        gives("but not done", x.lived(1), 3);
        String blanks = times(300, " ");
        days(blanks, 0);
        feed(blanks + " ");
        refused("301", x.days(301), 1);
        gives("300 of these", x.days(300), 0);
    }

    private static void live() {
        begin("53, 54 live, lived");
        three();
        refused("no DAYS", x.live(0), 6);
        refused("a seed", x.live(-1), 1);
        refused("a seed", x.live(10000), 1);
        refused("lived", x.lived(4), 1);
        refused("lived", x.lived(0), 6);
        days("shut low;flow 40;lend a b 4;swap a b;pass;open low;swap a b;pay b a;pay b a;when shut low;pass;end;"
                + "when owes b>0;pass;end;when owes b=0;flow 41;end;stop;pass;", 17);
        gives("live", x.live(9999), 14);
        gives("SPANS", x.lived(0), 1);
        gives("MISSED: swap, the second pay", x.lived(1), 2);
        gives("halved", x.lived(2), 0);
        gives("none was left", x.lived(3), 0);
        gives("HEAD", x.told(0), 41);
        gives("CLOSED", x.told(7), 0);
        gives("ORDER", x.order(0), 1);
        gives("LOANS", x.told(8), 1);
        gives("OWED", x.owed(1, 0), 0);
        gives("ACCOUNT", x.account(0), 180);
        gives("ACCOUNT", x.account(1), 0);
        refused("a seed", x.live(10000), 1);
        gives("lived stays", x.lived(1), 2);

        three();
        gives("lived stays with a new VALLEY", x.lived(1), 2);
        days("lend a b 9;pass;lend b a 20;pass;pay a b;", 5);
        gives("live", x.live(0), 5);
        gives("MISSED", x.lived(1), 0);
        gives("what it can: 10 of 11", x.owed(0, 1), 1);

        three();
        days("lend a b 1;pass;pay b a;", 3);
        gives("live", x.live(0), 3);
        gives("MISSED", x.lived(1), 0);
        gives("one minute PAID back", x.debts(), 0);

        three();
        days("loop 99;pass;end;loop 2;pass;end;", 4);
        gives("live", x.live(0), 103);
        gives("SPANS", x.lived(0), 99);
        gives("MISSED", x.lived(1), 2);

        three();
        days("loop 99;loop 2;flow 5;end;end;", 3);
        gives("1 and 99 by 3", x.live(0), 298);
        gives("none was left", x.lived(3), 0);
        days("pass;loop 99;loop 2;flow 5;end;end;pass;", 5);
        gives("just 300", x.live(0), 300);
        gives("none was left", x.lived(3), 0);
        days("pass;loop 99;loop 2;flow 5;end;end;pass;loop 7;end;", 6);
        gives("a loop is left", x.live(0), 300);
        gives("one was left", x.lived(3), 1);
        days("pass;pass;loop 99;loop 2;flow 5;end;end;stop;", 6);
        gives("a stop is left", x.live(0), 300);
        gives("one was left", x.lived(3), 1);
        days("loop 99;loop 99;end;end;", 2);
        gives("empty rounds are none", x.live(0), 100);
        days("", 0);
        gives("no STEPS", x.live(0), 0);
    }

    private static void draws() {
        begin("53 draws");
        three();
        int s = 77;
        int head = 999;
        int halved = 0;
        for (int k = 0; k < 6; k++) {
            s = (s * 2753 + 10559) % 65536;
            if ((s / 8) % 16 < 8) {
                head /= 2;
                halved++;
            }
        }
        days("flow 999;loop 6;dry 8;end;", 3);
        gives("live", x.live(77), 8);
        gives("HEAD", x.told(0), head);
        gives("halved", x.lived(2), halved);
        days("flow 7;dry 0;", 2);
        x.live(3);
        gives("never", x.told(0), 7);
        days("flow 7;loop 4;dry 16;end;", 3);
        x.live(3);
        gives("always", x.told(0), 0);
        gives("nothing is halved, too", x.lived(2), 4);

        begin("55 odds");
        three();
        denied("no DAYS", x.odds(0, 0, 0, 1), 6);
        days("dry 8;pass;", 2);
        int reached = 0;
        for (int seed = 100; seed < 110; seed++) {
            reached += ((seed * 2753 + 10559) % 65536 / 8) % 16 < 8 ? 0 : 1;
        }
        int divisor = reached == 5 ? 5 : reached % 2 == 0 && reached > 0 ? 2 : 1;
        fraction("odds", x.odds(0, 90, 100, 10), reached / divisor, 10 / divisor);
        for (int seed = 0; seed < 40; seed++) {
            int of = 0;
            for (int k = seed; k < seed + 2; k++) {
                of += (k * 2753 + 10559) % 65536 / 8 % 16 < 8 ? 0 : 1;
            }
            fraction("odds of " + seed, x.odds(0, 90, seed, 2), of == 2 ? 1 : of, of == 1 ? 2 : 1);
        }
        fraction("none", x.odds(0, 91, 100, 10), 0, 1);
        fraction("all", x.odds(0, 45, 100, 10), 1, 1);
        gives("all stays", x.told(0), 12);
        gives("all stays", x.told(6), 0);
        gives("all stays", x.account(0), 0);
        refused("lived, too", x.lived(0), 6);
        x.pass();
        fraction("from the ACCOUNT on", x.odds(0, 135, 100, 1), 1, 1);
        fraction("the last seed", x.odds(0, 0, 9999, 1), 1, 1);
        fraction("the last ten", x.odds(0, 0, 9990, 10), 1, 1);
        int[][] bad = {{3, 0, 0, 1}, {-1, 0, 0, 1}, {0, -1, 0, 1}, {0, 10000, 0, 1}, {0, 0, -1, 1}, {0, 0, 10000, 1},
            {0, 0, 0, 0}, {0, 0, 0, 11}, {0, 0, 9991, 10}, {0, 0, MAX, 10}, {0, 0, 0, MIN}};
        for (int[] b : bad) {
            denied("odds", x.odds(b[0], b[1], b[2], b[3]), 1);
        }
    }

    private static void marks() {
        begin("56, 57 mark, back");
        refused("none", x.back(), 6);
        three();
        x.swap(0, 1);
        x.pass();
        x.lend(2, 0, 4);
        x.close(1, true);
        x.head(33);
        days("flow 34;", 1);
        gives("mark", x.mark(), 1);
        x.live(0);
        x.pass();
        x.swap(2, 0);
        x.lend(2, 1, 9);
        x.close(1, false);
        gives("mark", x.mark(), 2);
        valley("head 1;", 0);
        x.tray(0, 3, 1);
        x.write(0, 0, 5);
        gives("mark", x.mark(), 3);
        refused("a fourth", x.mark(), 4);
        gives("back", x.back(), 2);
        gives("FIELDS", x.told(5), 0);
        refused("no DAYS", x.live(0), 6);
        gives("back", x.back(), 1);
        gives("FIELDS", x.told(5), 3);
        gives("HEAD", x.told(0), 34);
        gives("SPAN", x.told(6), 2);
        gives("OWED", x.owed(1, 2), 9);
        gives("back", x.back(), 0);
        gives("HEAD", x.told(0), 33);
        gives("CLOSED", x.told(7), 2);
        gives("LOANS", x.told(8), 1);
        gives("SPAN", x.told(6), 1);
        gives("OWED", x.owed(1, 2), 0);
        gives("OWED", x.owed(0, 2), 4);
        gives("ORDER", x.order(0), 1);
        gives("SLOTS", x.slots(), 4);
        gives("ACCOUNT", x.account(0), 90);
        gives("DAYS", x.live(0), 1);
        gives("TRAYS stay", x.read(0, 0), 5);
        days("shut up;", 1);
        refused("gone", x.back(), 6);
        gives("again", x.mark(), 1);
        x.back();

        three();
        x.lend(0, 1, 2);
        days("when owes b>1;lend c a 3;end;when rich a=0;flow 5;end;when shut up;flow 6;end;", 6);
        x.mark();
        days("pass;when shut low;pass;end;when owes a<9;pass;end;when rich b<1;pass;end;when shut up;pass;end;", 9);
        x.live(0);
        x.back();
        gives("DAYS with tests", x.live(0), 5);
        gives("HEAD", x.told(0), 5);
        gives("OWED", x.owed(0, 2), 3);
    }

    public static void main(String[] args) {
        newObject();
        statusAndFraction();
        trays();
        pour();
        tape();
        valleys();
        valleyFaults();
        faultAnswers();
        toldThings();
        turns();
        loans();
        slots();
        water();
        waterOfAll();
        shortOnes();
        bestOnes();
        swapsAndDebts();
        gauges();
        spans();
        dayFaults();
        live();
        draws();
        marks();
        finish("all promises are kept");
    }
}
