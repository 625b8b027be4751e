/** Each sentence of the document that names an edge of TURNS, LOANS, water, and of who is short. */
public final class BoundaryTurns extends Checks {

    /** A SPAN with one REACH that loses nothing, and FIELDS on it with these SHARES, which NEED nothing. */
    private static void shared(int span, int... shares) {
        StringBuilder text = new StringBuilder("head 6;span " + span + " begins 0;reach r loses 0 in 1;");
        for (int k = 0; k < shares.length; k++) {
            text.append("field x").append((char) ('a' + k)).append(" on r shares ").append(shares[k]).append(" needs 0;");
        }
        valley(text.toString(), shares.length);
    }

    /** One REACH and a FIELD on it that has the whole SPAN. */
    private static void single(String head, String reach, int needs) {
        valley(head + "reach r " + reach + ";field x on r shares 1 needs " + needs + ";", 1);
    }

    private static void sequence(int... fields) {
        for (int k = 0; k < fields.length; k++) {
            gives("place " + k, x.order(k), fields[k]);
        }
    }

    /** {first minute, how many} of each FIELD's TURN. */
    private static void turnsAre(int[]... turns) {
        for (int f = 0; f < turns.length; f++) {
            gives("first minute of " + f, x.turn(f, 0), turns[f][0]);
            gives("minutes of " + f, x.turn(f, 1), turns[f][1]);
        }
    }

    /** {FIELD, first minute, how many} of each SLOT. */
    private static void slotsAre(int[]... slots) {
        gives("SLOTS", x.slots(), slots.length);
        for (int k = 0; k < slots.length; k++) {
            for (int what = 0; what < 3; what++) {
                gives("slot " + k + "," + what, x.slot(k, what), slots[k][what]);
            }
        }
        refused("behind the last SLOT", x.slot(slots.length, 0), 6);
    }

    // ---- ORDER and TURNS

    private static void turns() {
        says("2", "ORDER of FIELDS at first");
        valley("reach a loses 0 in 1;reach b of a loses 0 in 1;reach c loses 0 in 1;reach d of b loses 0 in 1;"
                + "reach e of a loses 0 in 1;field p on e shares 1 needs 0;field q on c shares 1 needs 0;"
                + "field r on d shares 1 needs 0;field s on b shares 1 needs 0;field t on a shares 1 needs 0;"
                + "field u on b shares 1 needs 0;", 6);
        sequence(4, 3, 5, 2, 0, 1);

        says("17", "The k-th FIELD in the ORDER (1: k below 0; 6)");
        refused("no FIELDS", x.order(0), 6);
        refused("below 0", x.order(-1), 1);
        three();
        gives("the last", x.order(2), 2);
        refused("behind it", x.order(3), 6);
        refused("far behind", x.order(MAX), 6);
        refused("below 0", x.order(-1), 1);
        refused("far below", x.order(MIN), 1);

        says("2", "rounded down, on, to that with its own SHARES, rounded down (that one no more)");
        shared(10, 1, 1, 1);
        turnsAre(new int[] {0, 3}, new int[] {3, 3}, new int[] {6, 4});
        gives("the last minute of the first", x.whose(2), 0);
        gives("that one no more", x.whose(3), 1);
        gives("the last of the second", x.whose(5), 1);
        gives("the first of the third", x.whose(6), 2);
        gives("the last of the SPAN", x.whose(9), 2);
        shared(1440, 99, 99, 99, 99, 99, 99, 99, 99, 99, 99);
        turnsAre(new int[] {0, 144}, new int[] {144, 144}, new int[] {288, 144}, new int[] {432, 144});
        gives("the last TURN ends with the SPAN", x.turn(9, 0) + x.turn(9, 1), 1440);
        shared(1440, 1, 99, 99, 99, 99, 99, 99, 99, 99, 99);
        turnsAre(new int[] {0, 1}, new int[] {1, 160}, new int[] {161, 160}, new int[] {321, 160});

        says("2", "SLOTS: TURNS that have minutes, in order");
        shared(1, 1, 1, 1, 1, 1, 1, 1, 1, 1, 1);
        turnsAre(new int[] {0, 0}, new int[] {0, 0}, new int[] {0, 0});
        gives("the last has all", x.turn(9, 1), 1);
        slotsAre(new int[] {9, 0, 1});
        gives("whose", x.whose(0), 9);
        shared(3, 1, 9, 1, 9);
        turnsAre(new int[] {0, 0}, new int[] {0, 1}, new int[] {1, 0}, new int[] {1, 2});
        slotsAre(new int[] {1, 0, 1}, new int[] {3, 1, 2});

        says("18", "0: its first minute, 1: how many it has (1)");
        refused("no FIELDS", x.turn(0, 0), 1);
        shared(10, 1, 1, 1);
        int[][] bad = {{-1, 0}, {3, 0}, {10, 0}, {0, -1}, {0, 2}, {MIN, 0}, {MAX, 0}, {0, MIN}, {0, MAX}};
        for (int[] b : bad) {
            refused("turn " + b[0] + "," + b[1], x.turn(b[0], b[1]), 1);
        }
        x.lend(2, 0, 4);
        turnsAre(new int[] {0, 3}, new int[] {3, 3}, new int[] {6, 4});
    }

    private static void swaps() {
        says("2", "SWAP: two FIELDS change places in the ORDER");
        shared(10, 1, 2, 3, 4);
        did("the first and the last", x.swap(0, 3));
        sequence(3, 1, 2, 0);
        turnsAre(new int[] {9, 1}, new int[] {4, 2}, new int[] {6, 3}, new int[] {0, 4});
        did("the other way round", x.swap(3, 0));
        sequence(0, 1, 2, 3);
        did("beside each other", x.swap(2, 1));
        sequence(0, 2, 1, 3);

        says("19", "one and itself, too; 7: something is LENT");
        shared(10, 1, 2, 3);
        denied("one and itself", x.swap(1, 1), 1);
        int[][] bad = {{-1, 0}, {0, -1}, {3, 0}, {0, 3}, {3, 3}, {-1, -1}, {MIN, MAX}};
        for (int[] b : bad) {
            denied("swap " + b[0] + "," + b[1], x.swap(b[0], b[1]), 1);
        }
        x.lend(2, 0, 1);
        denied("something is LENT", x.swap(0, 1), 7);
        denied("by others, too", x.swap(1, 2), 7);
        denied("1 is ahead of 7", x.swap(1, 1), 1);
        denied("1 is ahead of 7", x.swap(1, 3), 1);
        sequence(0, 1, 2);
        x.pass();
        did("nothing is LENT any more, though OWED", x.swap(0, 1));
        sequence(1, 0, 2);
    }

    // ---- LOANS

    private static void loans() {
        says("2", "at most 12 LOANS in a SPAN");
        shared(60, 1, 1);
        for (int k = 1; k <= 12; k++) {
            gives("LOAN " + k, x.lend(0, 1, 1), k);
        }
        gives("LOANS", x.told(8), 12);
        refused("a 13th", x.lend(0, 1, 1), 4);
        refused("of another one, too", x.lend(1, 0, 1), 4);
        refused("4 is ahead of 7", x.lend(0, 1, 999), 4);
        refused("1 is ahead of 4", x.lend(0, 0, 1), 1);
        refused("1 is ahead of 4", x.lend(0, 1, 0), 1);
        gives("nothing changed", x.owed(1, 0), 12);
        gives("SLOTS", x.slots(), 14);
        x.pass();
        gives("twelve again", x.lend(0, 1, 1), 13);

        says("20", "of so many minutes (1 to 999)");
        shared(1440, 99, 1);
        refused("0", x.lend(0, 1, 0), 1);
        refused("1,000", x.lend(0, 1, 1000), 1);
        refused("below 0", x.lend(0, 1, -1), 1);
        refused("far below", x.lend(0, 1, MIN), 1);
        refused("far above", x.lend(0, 1, MAX), 1);
        gives("999", x.lend(0, 1, 999), 999);
        gives("1", x.lend(0, 1, 1), 1000);

        says("20", "7: its own has not so many left");
        shared(1440, 99, 1);
        gives("999 of 1,425", x.lend(0, 1, 999), 999);
        refused("one more than is left", x.lend(0, 1, 427), 7);
        gives("what is left", x.lend(0, 1, 426), 1425);
        refused("none is left", x.lend(0, 1, 1), 7);
        slotsAre(new int[] {1, 0, 426}, new int[] {1, 426, 999}, new int[] {1, 1425, 15});
        refused("what is borrowed is not its own", x.lend(1, 0, 16), 7);
        gives("its own is", x.lend(1, 0, 15), 0);
        gives("PAID back", x.owed(1, 0), 1410);
        shared(1, 1, 1);
        refused("a TURN of no minutes", x.lend(0, 1, 1), 7);
        gives("a TURN of one", x.lend(1, 0, 1), 1);

        says("20", "one and itself, too");
        shared(60, 1, 1);
        int[][] bad = {{0, 0}, {1, 1}, {-1, 0}, {0, -1}, {2, 0}, {0, 2}, {2, 2}, {MIN, 0}, {0, MAX}};
        for (int[] b : bad) {
            refused("lend " + b[0] + "," + b[1], x.lend(b[0], b[1], 1), 1);
            refused("owed " + b[0] + "," + b[1], x.owed(b[0], b[1]), 1);
        }
        gives("no LOANS", x.told(8), 0);

        says("2", "the last m minutes become a SLOT of another FIELD");
        shared(30, 1, 1, 1);
        x.lend(1, 0, 2);
        slotsAre(new int[] {0, 0, 10}, new int[] {1, 10, 8}, new int[] {0, 18, 2}, new int[] {2, 20, 10});
        x.lend(1, 0, 3);
        slotsAre(new int[] {0, 0, 10}, new int[] {1, 10, 5}, new int[] {0, 15, 3}, new int[] {0, 18, 2},
                new int[] {2, 20, 10});
        x.lend(1, 2, 5);
        slotsAre(new int[] {0, 0, 10}, new int[] {2, 10, 5}, new int[] {0, 15, 3}, new int[] {0, 18, 2},
                new int[] {2, 20, 10});
        x.lend(0, 1, 10);
        slotsAre(new int[] {1, 0, 10}, new int[] {2, 10, 5}, new int[] {0, 15, 3}, new int[] {0, 18, 2},
                new int[] {2, 20, 10});
        gives("minutes of all its SLOTS", x.minutes(0, 0), 5);
        gives("minutes of all its SLOTS", x.minutes(1, 0), 10);
        gives("minutes of all its SLOTS", x.minutes(2, 0), 15);
        refused("none of its own is left", x.lend(0, 2, 1), 7);
    }

    private static void debts() {
        says("2", "if the lender owes the other one, first that is less (PAID back), the rest is OWED");
        shared(60, 1, 1, 1);
        gives("OWED", x.lend(0, 1, 5), 5);
        gives("less than is owed: nothing the other way", x.lend(1, 0, 4), 0);
        gives("one is left", x.owed(1, 0), 1);
        gives("just what is owed", x.lend(1, 0, 1), 0);
        gives("none is left", x.owed(1, 0), 0);
        gives("no DEBTS", x.debts(), 0);
        gives("from none on", x.lend(1, 0, 1), 1);
        gives("more than is owed: the rest", x.lend(0, 1, 4), 3);
        gives("none the other way", x.owed(0, 1), 0);
        gives("the rest", x.owed(1, 0), 3);
        gives("another one's is not touched", x.lend(2, 1, 7), 7);
        gives("the rest stays", x.owed(1, 0), 3);

        says("46", "DEBTS");
        gives("no FIELDS", x.debts(), 0);
        shared(60, 1, 1, 1);
        gives("none", x.debts(), 0);
        x.lend(0, 1, 1);
        gives("one couple", x.debts(), 1);
        x.lend(0, 1, 1);
        gives("the same couple", x.debts(), 1);
        x.lend(0, 2, 1);
        x.lend(2, 1, 1);
        gives("all couples", x.debts(), 3);
        x.lend(1, 0, 2);
        gives("one is PAID back", x.debts(), 2);
        x.pass();
        gives("what is OWED stays", x.debts(), 2);

        says("47", "BALANCE of an OWNER; STATUS tells NONE from -1 (1)");
        refused("no OWNERS", x.balance(0), 1);
        three();
        gives("none", x.balance(0), 0);
        x.lend(1, 0, 1);
        gives("-1", x.balance(0), -1);
        gives("1", x.balance(1), 1);
        refused("no such", x.balance(2), 1);
        refused("NONE is no OWNER here", x.balance(-1), 1);
        refused("far below", x.balance(MIN), 1);
        refused("far above", x.balance(MAX), 1);
    }

    /** Ten REACHES that are SHUT in ten TURNS, and twelve LOANS: as many pieces of a SPAN as there can be. */
    private static void mostPieces() {
        StringBuilder text = new StringBuilder("head 9;");
        for (int k = 0; k < 10; k++) {
            text.append("reach r").append((char) ('a' + k)).append(" loses 0 in 1 shut ").append(144 * k + 50)
                    .append(" to ").append(144 * k + 60).append(';');
        }
        for (int k = 0; k < 10; k++) {
            text.append("field x").append((char) ('a' + k)).append(" on r").append((char) ('a' + k))
                    .append(" shares 1 needs 0;");
        }
        valley(text.toString(), 10);
        for (int k = 0; k < 12; k++) {
            did("LOAN", x.lend(k % 10, (k + 1) % 10, 1) != NONE);
        }
        int all = 0;
        int open = 0;
        for (int f = 0; f < 10; f++) {
            all += x.minutes(f, 0);
            open += x.minutes(f, 1);
        }
        due("all minutes of the SPAN", all, 1440);
        due("but ten of each TURN", open, 1340);
        gives("the last minute is borrowed", x.whose(1439), 0);
        gives("and has water", x.waits(0, 1439), 0);
        gives("the last of its own", x.waits(9, 1438), 0);
        gives("DRIEST", x.driest(), 10);
    }

    private static void slots() {
        says("22", "How many SLOTS there are");
        gives("no FIELDS", x.slots(), 0);
        refused("no SLOT", x.slot(0, 0), 6);
        shared(100, 1, 1, 1, 1, 1, 1, 1, 1, 1, 1);
        for (int k = 0; k < 12; k++) {
            x.lend(k % 10, (k + 1) % 10, 1);
        }
        gives("ten and twelve", x.slots(), 22);
        int at = 0;
        for (int k = 0; k < 22; k++) {
            gives("they have no gaps", x.slot(k, 1), at);
            at += x.slot(k, 2);
        }
        due("to the end of the SPAN", at, 100);

        says("23", "what 0: the FIELD, 1: its first minute, 2: how many (1: what; 6)");
        shared(10, 1, 1);
        refused("behind the last", x.slot(2, 0), 6);
        refused("far behind", x.slot(MAX, 2), 6);
        refused("below 0", x.slot(-1, 0), 6);
        refused("far below", x.slot(MIN, 0), 6);
        refused("what", x.slot(0, -1), 1);
        refused("what", x.slot(0, 3), 1);
        refused("1 is ahead of 6", x.slot(2, 3), 1);
        refused("1 is ahead of 6", x.slot(-1, MIN), 1);

        says("24", "below 0, beyond the SPAN; 6: nobody's");
        refused("nobody's", x.whose(0), 6);
        refused("nobody's", x.whose(1439), 6);
        refused("beyond", x.whose(1440), 1);
        refused("below 0", x.whose(-1), 1);
        shared(10, 1, 1);
        gives("the first", x.whose(0), 0);
        gives("the last", x.whose(9), 1);
        refused("beyond", x.whose(10), 1);
        refused("far beyond", x.whose(MAX), 1);
        refused("far below", x.whose(MIN), 1);

        says("2", "in each minute in which all REACHES above and its own let through");
        mostPieces();

        says("25", "of these in which all let through (1) (1)");
        shared(10, 1, 1);
        gives("all of these", x.minutes(1, 1), 5);
        x.head(0);
        gives("whatever comes", x.minutes(1, 1), 5);
        x.close(0, true);
        gives("none of these", x.minutes(1, 1), 0);
        gives("it has them", x.minutes(1, 0), 5);
        x.lend(1, 0, 5);
        gives("all LENT", x.minutes(1, 0), 0);
        int[][] bad = {{-1, 0}, {2, 0}, {0, -1}, {0, 2}, {MIN, MIN}, {MAX, MAX}};
        for (int[] b : bad) {
            refused("minutes " + b[0] + "," + b[1], x.minutes(b[0], b[1]), 1);
        }
    }

    // ---- what lets through

    private static void lettings() {
        says("Terms", "SHUT from a minute of the day (0 to 1,439) to another one (1 to 1,440, above it; that one no more)");
        single("", "loses 0 in 1 shut 10 to 12", 0);
        gives("ahead", x.lets(0, 9), 1);
        gives("from", x.lets(0, 10), 0);
        gives("the last", x.lets(0, 11), 0);
        gives("that one no more", x.lets(0, 12), 1);
        gives("minutes", x.minutes(0, 1), 1438);
        single("", "loses 0 in 1 shut 0 to 1440", 0);
        gives("all day", x.lets(0, 0) + x.lets(0, 1439), 0);
        gives("minutes", x.minutes(0, 1), 0);
        single("", "loses 0 in 1 shut 0 to 1", 0);
        gives("the first of the day", x.lets(0, 0), 0);
        gives("the second", x.lets(0, 1), 1);
        single("", "loses 0 in 1 shut 1439 to 1440", 0);
        gives("the last of the day", x.lets(0, 1439), 0);
        gives("the last but one", x.lets(0, 1438), 1);
        gives("the first of the day", x.lets(0, 0), 1);
        gives("minutes", x.minutes(0, 1), 1439);

        says("Terms", "it BEGINS in a minute of the day");
        single("span 2 begins 1439;", "loses 0 in 1 shut 1439 to 1440", 0);
        gives("the last of the day", x.lets(0, 0), 0);
        gives("the first of the next", x.lets(0, 1), 1);
        gives("minutes", x.minutes(0, 1), 1);
        single("span 2 begins 1439;", "loses 0 in 1 shut 0 to 1", 0);
        gives("the last of the day", x.lets(0, 0), 1);
        gives("the first of the next", x.lets(0, 1), 0);
        single("span 1440 begins 720;", "loses 0 in 1 shut 719 to 721", 0);
        gives("its first minute", x.lets(0, 0), 0);
        gives("its second", x.lets(0, 1), 1);
        gives("its last but one", x.lets(0, 1438), 1);
        gives("its last", x.lets(0, 1439), 0);
        gives("minutes", x.minutes(0, 1), 1438);
        gives("the wait ahead", x.waits(0, 0), 1);
        refused("the wait behind", x.waits(0, 1439), 6);
        single("span 1440 begins 1;", "loses 0 in 1 shut 0 to 1", 0);
        gives("its last", x.lets(0, 1439), 0);
        gives("its last but one", x.lets(0, 1438), 1);
        gives("minutes", x.minutes(0, 1), 1439);
        single("span 1440 begins 1439;", "loses 0 in 1 shut 1 to 1440", 0);
        gives("its second alone", x.minutes(0, 1), 1);
        gives("its second", x.lets(0, 1), 1);

        says("28", "1 if a REACH lets through in a minute of the SPAN, else 0 (1)");
        valley("span 10 begins 0;reach a loses 0 in 1;reach b of a loses 0 in 1;", 0);
        gives("the first", x.lets(0, 0), 1);
        gives("the last", x.lets(0, 9), 1);
        x.close(0, true);
        gives("CLOSED", x.lets(0, 5), 0);
        gives("the one below it lets through", x.lets(1, 5), 1);
        int[][] bad = {{0, -1}, {0, 10}, {-1, 0}, {2, 0}, {MIN, MIN}, {MAX, MAX}, {0, 1439}};
        for (int[] b : bad) {
            refused("lets " + b[0] + "," + b[1], x.lets(b[0], b[1]), 1);
        }

        says("2", "It lets nothing through in minutes in which it is SHUT, or if it is CLOSED");
        single("span 10 begins 0;", "loses 0 in 1 shut 0 to 5", 0);
        x.close(0, true);
        gives("both", x.lets(0, 0), 0);
        gives("CLOSED", x.lets(0, 9), 0);
        x.close(0, false);
        gives("SHUT", x.lets(0, 0), 0);
        gives("none of both", x.lets(0, 9), 1);

        says("26", "A REACH is CLOSED, or no more (1)");
        denied("no REACHES", x.close(0, true), 1);
        three();
        did("open already", x.close(1, false));
        gives("set", x.told(7), 0);
        did("CLOSED", x.close(1, true));
        did("CLOSED already", x.close(1, true));
        gives("set", x.told(7), 2);
        int[] reaches = {-1, 2, 10, 31, 32, MIN, MAX};
        for (int reach : reaches) {
            denied("close " + reach, x.close(reach, true), 1);
            denied("open " + reach, x.close(reach, false), 1);
        }
        gives("set", x.told(7), 2);

        says("27", "HEAD is so many litres a minute (0 to 999) (1)");
        did("0", x.head(0));
        gives("HEAD", x.told(0), 0);
        did("999", x.head(999));
        gives("HEAD", x.told(0), 999);
        int[] heads = {-1, 1000, MIN, MAX};
        for (int head : heads) {
            denied("head " + head, x.head(head), 1);
        }
        gives("HEAD", x.told(0), 999);
    }

    // ---- water

    private static void water() {
        says("2", "at first no more than it CARRIES, then what is left behind its loss");
        String reach = "loses 1 in 2 carries 8";
        single("head 7;span 10 begins 0;", reach, 0);
        fraction("less than it CARRIES", x.rate(0), 7, 2);
        fraction("nothing runs out", x.runsOut(0), 0, 1);
        x.head(8);
        fraction("just what it CARRIES", x.rate(0), 4, 1);
        fraction("nothing runs out", x.runsOut(0), 0, 1);
        fraction("lost", x.lost(0), 40, 1);
        x.head(9);
        fraction("more than it CARRIES", x.rate(0), 4, 1);
        fraction("one a minute runs out", x.runsOut(0), 10, 1);
        fraction("lost", x.lost(0), 40, 1);
        x.head(999);
        fraction("far more", x.rate(0), 4, 1);
        fraction("what runs out", x.runsOut(0), 9910, 1);
        x.head(0);
        fraction("nothing", x.rate(0), 0, 1);
        fraction("nothing", x.water(0), 0, 1);
        fraction("nothing", x.lost(0), 0, 1);
        fraction("nothing", x.runsOut(0), 0, 1);
        valley("head 12;span 10 begins 0;reach a loses 1 in 2;reach b of a loses 1 in 3 carries 5;"
                + "field x on b shares 1 needs 0;", 1);
        fraction("the lower one CARRIES less than comes", x.rate(0), 10, 3);
        fraction("what runs out there", x.runsOut(1), 10, 1);
        fraction("not above it", x.runsOut(0), 0, 1);
        single("head 5;span 10 begins 0;", "loses 0 in 1", 0);
        fraction("no loss", x.rate(0), 5, 1);
        fraction("no loss", x.lost(0), 0, 1);
        single("head 12;span 10 begins 0;", "loses 11 in 12", 0);
        fraction("the greatest loss", x.rate(0), 1, 1);
        fraction("the greatest loss", x.lost(0), 110, 1);

        says("2", "REACH by REACH from the head down to its own");
        StringBuilder chain = new StringBuilder("head 999;span 4 begins 0;reach a loses 1 in 3 carries 990;");
        for (char c = 'b'; c < 'k'; c++) {
            chain.append("reach ").append(c).append(" of ").append((char) (c - 1)).append(" loses 1 in 2;");
        }
        valley(chain + "field x on j shares 1 needs 0;", 1);
        fraction("the tenth REACH", x.rate(0), 165, 128);
        fraction("lost at the first", x.lost(0), 1320, 1);
        fraction("runs out at the first", x.runsOut(0), 36, 1);
        fraction("lost at the second", x.lost(1), 1320, 1);
        fraction("lost at the tenth", x.lost(9), 165, 32);
        fraction("WATER", x.water(0), 165, 32);
        gives("below the first", x.below(0), 1);
        x.close(9, true);
        fraction("runs out at the tenth", x.runsOut(9), 165, 16);
        fraction("lost at the first", x.lost(0), 1320, 1);

        says("29", "The FRACTION is RATE of a FIELD (1)");
        int[] fields = {-1, 3, 10, MIN, MAX};
        denied("no FIELDS", x.rate(0), 1);
        denied("no FIELDS", x.water(0), 1);
        three();
        x.rate(0);
        for (int f : fields) {
            denied("rate " + f, x.rate(f), 1);
            denied("water " + f, x.water(f), 1);
            told("stays", 9, 1);
        }
        x.close(0, true);
        fraction("RATE is of open REACHES", x.rate(0), 9, 1);

        says("30", "The FRACTION is WATER of a FIELD (1)");
        single("head 999;", "loses 0 in 1", 0);
        fraction("the most", x.water(0), 1438560, 1);
        single("head 1;span 1 begins 0;", "loses 11 in 12", 0);
        fraction("a minute", x.water(0), 1, 12);
        single("head 1;span 1440 begins 0;", "loses 0 in 1 shut 1 to 1440", 0);
        fraction("the first minute", x.water(0), 1, 1);
        single("head 1;span 1440 begins 0;", "loses 0 in 1 shut 0 to 1439", 0);
        fraction("the last minute", x.water(0), 1, 1);
        shared(10, 1, 1);
        x.lend(0, 1, 5);
        fraction("no SLOTS", x.water(0), 0, 1);
        fraction("all SLOTS", x.water(1), 60, 1);

        says("2", "LOST of a REACH: what it loses in all SLOTS of FIELDS below it or on it");
        valley("head 12;span 10 begins 0;reach a loses 1 in 2;reach b of a loses 1 in 2;reach c loses 1 in 2;"
                + "field x on b shares 1 needs 0;field y on c shares 1 needs 0;", 2);
        fraction("a", x.lost(0), 30, 1);
        fraction("b", x.lost(1), 15, 1);
        fraction("c", x.lost(2), 30, 1);
        x.close(1, true);
        fraction("all to it let through", x.lost(0), 30, 1);
        fraction("it, too", x.lost(1), 0, 1);
        fraction("comes to one that does not", x.runsOut(1), 30, 1);
        x.close(0, true);
        fraction("it, too", x.lost(0), 0, 1);
        fraction("comes to one that does not", x.runsOut(0), 60, 1);
        fraction("no more comes there", x.runsOut(1), 0, 1);
        valley("head 12;span 10 begins 0;reach a loses 1 in 2;reach b of a loses 1 in 2;"
                + "field x on a shares 1 needs 0;", 1);
        fraction("no FIELDS there", x.lost(1), 0, 1);
        fraction("no FIELDS there", x.runsOut(1), 0, 1);
        denied("no such", x.lost(2), 1);
        denied("NONE is no REACH here", x.lost(NONE), 1);
        denied("no such", x.lost(MAX), 1);
        denied("no such", x.lost(MIN), 1);

        says("2", "what comes in in minutes of no SLOT (without FIELDS) runs out at the head");
        fraction("without all", x.runsOut(NONE), 144000, 1);
        valley("head 999;reach a loses 0 in 1;", 0);
        fraction("the most", x.runsOut(NONE), 1438560, 1);
        fraction("not at the REACH", x.runsOut(0), 0, 1);
        x.head(0);
        fraction("nothing comes", x.runsOut(NONE), 0, 1);
        shared(1, 1);
        fraction("with FIELDS", x.runsOut(NONE), 0, 1);
        x.close(0, true);
        fraction("at the REACH", x.runsOut(0), 6, 1);
        fraction("not at the head", x.runsOut(NONE), 0, 1);

        says("32", "(NONE: at the head) (1)");
        three();
        denied("below NONE", x.runsOut(-2), 1);
        denied("no such", x.runsOut(2), 1);
        denied("no such", x.runsOut(MIN), 1);
        denied("no such", x.runsOut(MAX), 1);

        says("33", "WATER of all FIELDS of an OWNER (NONE: of none) together (1)");
        fraction("no FIELDS", x.waterOf(NONE), 0, 1);
        denied("no OWNERS", x.waterOf(0), 1);
        valley("head 1;span 6 begins 0;owner o;owner p;reach r loses 0 in 1;field x on r shares 1 needs 0 by o;"
                + "field y on r shares 2 needs 0;field z on r shares 3 needs 0 by o;", 3);
        fraction("two of them", x.waterOf(0), 4, 1);
        fraction("an OWNER without", x.waterOf(1), 0, 1);
        fraction("of none", x.waterOf(NONE), 2, 1);
        denied("no such", x.waterOf(2), 1);
        denied("below NONE", x.waterOf(-2), 1);
        denied("no such", x.waterOf(MAX), 1);
        denied("no such", x.waterOf(MIN), 1);
    }

    // ---- who is short

    private static void needs(int needs, int lacking, int spare) {
        single("head 3;span 10 begins 0;", "loses 0 in 1", needs);
        gives("lacking of " + needs, x.lacking(0), lacking);
        gives("spare of " + needs, x.spare(0), spare);
    }

    private static void shortOnes() {
        says("3", "how many minutes more (all REACHES letting through) it would take to get what it NEEDS, rounded up");
        needs(29, 0, 0);
        needs(30, 0, 0);
        needs(31, 1, 0);
        needs(33, 1, 0);
        needs(34, 2, 0);
        needs(28, 0, 0);
        needs(27, 0, 1);
        needs(4, 0, 8);
        needs(3, 0, 9);
        needs(1, 0, 9);
        needs(0, 0, 10);
        single("head 3;span 10 begins 0;", "loses 0 in 1", 1);
        x.close(0, true);
        gives("none lets through, but the RATE is 3", x.lacking(0), 1);

        says("3", "0 if it gets that; 999,999 if it is more");
        String chain = "head 1;span 1 begins 0;reach a loses 2 in 3;reach b of a loses 8 in 9;"
                + "reach c of b loses 10 in 11;field x on c shares 1 needs ";
        valley(chain + "3366;", 1);
        x.close(0, true);
        gives("297 minutes for a litre", x.lacking(0), 999702);
        valley(chain + "3367;", 1);
        gives("one minute of these is there", x.lacking(0), 999998);
        x.close(0, true);
        gives("just so many", x.lacking(0), 999999);
        valley(chain + "3368;", 1);
        gives("more", x.lacking(0), 999999);
        valley(chain + "9999;", 1);
        gives("far more", x.lacking(0), 999999);

        says("34", "7: its RATE is 0, and it NEEDS more");
        single("head 0;span 10 begins 0;", "loses 0 in 1", 1);
        refused("RATE 0", x.lacking(0), 7);
        gives("SPARE has no 7", x.spare(0), 0);
        x.head(1);
        gives("RATE 1", x.lacking(0), 0);
        single("head 0;span 10 begins 0;", "loses 0 in 1", 0);
        gives("it NEEDS no more", x.lacking(0), 0);
        gives("all are SPARE", x.spare(0), 10);
        int[] fields = {-1, 1, 10, MIN, MAX};
        for (int f : fields) {
            refused("lacking " + f, x.lacking(f), 1);
            refused("spare " + f, x.spare(f), 1);
            refused("headFor " + f, x.headFor(f), 1);
        }

        says("3", "SPARE: 0 of one that is SHORT; else by how many all minutes of its SLOTS are more than the fewest");
        single("head 3;span 10 begins 0;", "loses 0 in 1 shut 0 to 4", 18);
        gives("it gets just that", x.lacking(0), 0);
        gives("SHUT ones count", x.spare(0), 4);
        single("head 3;span 10 begins 0;", "loses 0 in 1 shut 0 to 4", 19);
        gives("SHORT", x.lacking(0), 1);
        gives("SHORT", x.spare(0), 0);
        single("head 1;span 10 begins 0;", "loses 0 in 1", 3);
        gives("RATE 1", x.spare(0), 7);
        shared(10, 1, 1);
        x.lend(0, 1, 5);
        gives("none is left", x.spare(0), 0);
        gives("borrowed ones count", x.spare(1), 10);
    }

    private static void two(int needsX, int needsY) {
        valley("head 1;span 8 begins 0;reach r loses 0 in 1;field x on r shares 1 needs " + needsX
                + ";field y on r shares 1 needs " + needsY + ";", 2);
    }

    private static void fewestOnes() {
        says("3", "FEWEST minutes LENT: all SHORT ones together, if all SPARE ones are no fewer");
        gives("no FIELDS", x.fewest(), 0);
        two(4, 4);
        gives("none is SHORT, none SPARE", x.fewest(), 0);
        two(0, 8);
        gives("just as many", x.fewest(), 4);
        two(0, 9);
        refused("one too few", x.fewest(), 6);
        two(8, 0);
        gives("the other way round", x.fewest(), 4);
        two(1, 6);
        gives("more than enough", x.fewest(), 2);
        two(9999, 9999);
        refused("all are SHORT", x.fewest(), 6);

        says("36", "7: as lacking() of any FIELD, ahead of 6");
        two(0, 1);
        x.head(0);
        refused("the last FIELD", x.fewest(), 7);
        refused("the last FIELD", x.neediest(), 7);
        two(1, 0);
        x.head(0);
        refused("the first FIELD", x.fewest(), 7);
        refused("the first FIELD", x.neediest(), 7);
        two(0, 0);
        x.head(0);
        gives("they NEED no more", x.fewest(), 0);
        refused("they NEED no more", x.neediest(), 6);

        says("37", "6: none is SHORT");
        refused("no FIELDS", x.neediest(), 6);
        two(4, 4);
        refused("none", x.neediest(), 6);
        two(4, 5);
        gives("one", x.neediest(), 1);
        two(5, 4);
        gives("one", x.neediest(), 0);
        says("3", "GIVING: the FIELD that is SHORT of most (of several the first)");
        two(6, 6);
        gives("both alike", x.neediest(), 0);
        two(6, 7);
        gives("the second", x.neediest(), 1);
        two(7, 6);
        gives("the first", x.neediest(), 0);
        valley("head 1;span 2 begins 0;reach a loses 11 in 12;reach b of a loses 11 in 12;"
                + "field x on b shares 1 needs 9998;field y on b shares 1 needs 9999;", 2);
        gives("both 999,999", x.neediest(), 0);
    }

    private static void worths() {
        says("38", "RICHEST (true), POOREST (false) (6: no FIELDS)");
        refused("no FIELDS", x.richest(true), 6);
        refused("no FIELDS", x.richest(false), 6);
        shared(1, 1);
        gives("one FIELD", x.richest(true), 0);
        gives("one FIELD", x.richest(false), 0);
        says("3", "the greatest, the least of these (of several the first)");
        shared(30, 1, 1, 1);
        gives("all alike", x.richest(true), 0);
        gives("all alike", x.richest(false), 0);
        x.lend(0, 2, 1);
        x.lend(0, 1, 1);
        gives("two alike", x.richest(true), 1);
        gives("one alone", x.richest(false), 0);
        shared(30, 1, 1, 1);
        x.lend(2, 0, 1);
        x.lend(1, 0, 1);
        gives("one alone", x.richest(true), 0);
        gives("two alike", x.richest(false), 1);
        shared(99, 98, 1);
        gives("by SHARES alike", x.richest(true), 0);
        x.lend(0, 1, 1);
        gives("a minute by one SHARE", x.richest(true), 1);
        says("3", "WORTH of a SHARE: WATER by SHARES");
        StringBuilder text = new StringBuilder("head 999;reach a loses 0 in 12;");
        for (char c = 'b'; c < 'k'; c++) {
            text.append("reach ").append(c).append(" of ").append((char) (c - 1)).append(" loses 0 in 12;");
        }
        valley(text + "field x on j shares 99 needs 0;field y on j shares 1 needs 0;", 2);
        x.lend(0, 1, 999);
        x.lend(0, 1, 426);
        gives("the greatest that can be", x.richest(true), 1);
        gives("nothing", x.richest(false), 0);
        fraction("all of it", x.water(1), 1438560, 1);

        says("39", "6: none brings more");
        refused("no REACHES", x.mending(), 6);
        single("head 3;", "loses 0 in 12", 0);
        x.off();
        refused("no loss", x.mending(), 6);
        told("the FRACTION stays", 0, 1);
        valley("head 9;reach a loses 1 in 3;reach b of a loses 0 in 1 carries 6;field x on b shares 1 needs 0;", 1);
        refused("the lower one CARRIES no more", x.mending(), 6);
        valley("head 9;span 1 begins 0;reach a loses 1 in 3;reach b of a loses 0 in 1 carries 7;"
                + "field x on b shares 1 needs 0;", 1);
        gives("it CARRIES one more", x.mending(), 0);
        told("one more", 1, 1);
        x.head(0);
        refused("nothing comes", x.mending(), 6);
        single("head 1;span 1 begins 0;", "loses 1 in 2", 0);
        gives("the least that is more", x.mending(), 0);
        told("half a litre", 1, 2);
        says("3", "CHEAPEST to mend");
        valley("head 9;span 3 begins 0;reach a loses 1 in 3;reach b loses 1 in 3;reach c loses 0 in 1;"
                + "field w on c shares 1 needs 0;field x on b shares 1 needs 0;field y on a shares 1 needs 0;", 3);
        gives("of several the first", x.mending(), 0);
        told("three more", 3, 1);
        x.close(0, true);
        gives("the other one", x.mending(), 1);
    }

    private static void offAndDry() {
        says("40", "The FRACTION is OFF (6: no FIELDS)");
        denied("no FIELDS", x.off(), 6);
        shared(1, 1);
        fraction("one FIELD", x.off(), 0, 1);
        shared(12, 1, 2, 3);
        fraction("none is off", x.off(), 0, 1);
        says("3", "by how many minutes a TURN is more or less than SPAN by its SHARES by all SHARES, exactly");
        shared(1, 1, 1, 1, 1, 1, 1, 1, 1, 1, 1);
        fraction("more", x.off(), 9, 10);
        shared(1, 9, 1);
        fraction("less, and more", x.off(), 9, 10);
        shared(10, 1, 1, 1);
        fraction("the greatest", x.off(), 2, 3);
        x.lend(2, 0, 4);
        fraction("of TURNS, not of SLOTS", x.off(), 2, 3);
        shared(1439, 99, 99, 99, 99, 99, 99, 99, 99, 99, 99);
        fraction("large ones", x.off(), 9, 10);

        says("3", "DRIEST: the most minutes of the SPAN on end in which no FIELD gets water");
        gives("no FIELDS", x.driest(), 1440);
        shared(10, 1, 1);
        gives("none", x.driest(), 0);
        x.head(0);
        gives("RATE 0", x.driest(), 10);
        x.head(1);
        gives("RATE 1", x.driest(), 0);
        x.close(0, true);
        gives("CLOSED", x.driest(), 10);
        String dry = "span 10 begins 0;reach a loses 0 in 1 shut ";
        String two = ";field x on a shares 1 needs 0;field y on a shares 1 needs 0;";
        valley(dry + "0 to 1" + two, 2);
        gives("the first minute", x.driest(), 1);
        valley(dry + "9 to 10" + two, 2);
        gives("the last minute", x.driest(), 1);
        valley(dry + "4 to 6" + two, 2);
        gives("over two TURNS", x.driest(), 2);
        valley(dry + "0 to 9" + two, 2);
        gives("but the last", x.driest(), 9);
        valley(dry + "1 to 1440" + two, 2);
        gives("but the first", x.driest(), 9);
        valley("span 10 begins 0;reach a loses 0 in 1 shut 2 to 7;reach b loses 0 in 1 shut 3 to 9;"
                + "field x on a shares 1 needs 0;field y on b shares 1 needs 0;", 2);
        gives("of the FIELD whose SLOT it is", x.driest(), 7);

        says("42", "WAIT (1; 6: not in this SPAN)");
        refused("no FIELDS", x.waits(0, 0), 1);
        valley(dry + "6 to 8" + two, 2);
        gives("0: in that one", x.waits(0, 0), 0);
        gives("its last minute", x.waits(0, 4), 0);
        refused("not in this SPAN", x.waits(0, 5), 6);
        gives("till its TURN", x.waits(1, 0), 5);
        gives("a minute ahead", x.waits(1, 4), 1);
        gives("in that one", x.waits(1, 5), 0);
        gives("SHUT", x.waits(1, 6), 2);
        gives("SHUT, the last", x.waits(1, 7), 1);
        gives("the last of the SPAN", x.waits(1, 9), 0);
        int[][] bad = {{0, -1}, {0, 10}, {-1, 0}, {2, 0}, {MIN, MIN}, {MAX, MAX}};
        for (int[] b : bad) {
            refused("waits " + b[0] + "," + b[1], x.waits(b[0], b[1]), 1);
        }
        x.head(0);
        refused("RATE 0", x.waits(1, 9), 6);
    }

    private static void heads() {
        says("3", "HEAD FOR a FIELD: the least HEAD (0 to 999) with which it would not be SHORT");
        single("head 5;span 1 begins 0;", "loses 0 in 1", 0);
        gives("0", x.headFor(0), 0);
        single("head 5;span 1 begins 0;", "loses 0 in 1", 1);
        gives("1", x.headFor(0), 1);
        single("head 5;span 1 begins 0;", "loses 0 in 1", 998);
        gives("998", x.headFor(0), 998);
        single("head 5;span 1 begins 0;", "loses 0 in 1", 999);
        gives("999", x.headFor(0), 999);
        single("head 5;span 1 begins 0;", "loses 0 in 1", 1000);
        refused("none to 999", x.headFor(0), 6);
        single("head 5;span 10 begins 0;", "loses 1 in 2", 20);
        gives("just so many", x.headFor(0), 4);
        single("head 5;span 10 begins 0;", "loses 1 in 2", 21);
        gives("one more", x.headFor(0), 5);
        single("head 5;span 1 begins 0;", "loses 0 in 1 carries 9", 9);
        gives("what it CARRIES", x.headFor(0), 9);
        single("head 5;span 1 begins 0;", "loses 0 in 1 carries 9", 10);
        refused("it CARRIES no more", x.headFor(0), 6);
        single("head 5;span 1 begins 0;", "loses 0 in 1 shut 0 to 1", 1);
        refused("SHUT", x.headFor(0), 6);
        single("head 5;span 1 begins 0;", "loses 0 in 1 shut 0 to 1", 0);
        gives("SHUT, but it NEEDS none", x.headFor(0), 0);
        gives("HEAD stays", x.told(0), 5);
    }

    private static void bestOnes() {
        says("44", "6: none costs any");
        refused("no REACHES", x.shadow(), 6);
        valley("reach a loses 0 in 1;", 0);
        refused("no FIELDS", x.shadow(), 6);
        single("head 1;span 1 begins 0;", "loses 11 in 12", 0);
        gives("the least", x.shadow(), 0);
        told("a twelfth", 1, 12);
        x.close(0, true);
        refused("CLOSED already", x.shadow(), 6);
        told("the FRACTION stays", 1, 12);
        x.close(0, false);
        x.head(0);
        refused("nothing comes", x.shadow(), 6);
        says("3", "would cost all FIELDS together the most WATER: of several the first");
        valley("head 1;span 2 begins 0;reach a loses 0 in 1;reach b of a loses 0 in 1;reach c of b loses 0 in 1;"
                + "field x on c shares 1 needs 0;", 1);
        gives("all alike", x.shadow(), 0);
        valley("head 1;span 4 begins 0;reach a loses 0 in 1;reach b loses 0 in 1;reach c of b loses 0 in 1;"
                + "field x on a shares 1 needs 0;field y on c shares 1 needs 0;", 2);
        gives("both alike", x.shadow(), 0);
        x.lend(0, 1, 1);
        gives("the upper of two", x.shadow(), 1);
        told("three litres", 3, 1);

        says("45", "7: something is LENT, ahead of 6; 6: none brings more");
        refused("no FIELDS", x.bestSwap(0), 6);
        refused("what", x.bestSwap(-1), 1);
        refused("what", x.bestSwap(2), 1);
        shared(10, 1);
        refused("one FIELD", x.bestSwap(1), 6);
        shared(10, 1, 1);
        refused("none brings more", x.bestSwap(0), 6);
        x.lend(0, 1, 1);
        refused("7 is ahead of 6", x.bestSwap(0), 7);
        refused("1 is ahead of 7", x.bestSwap(2), 1);
        refused("1 is ahead of 7", x.bestSwap(MIN), 1);
        x.pass();
        refused("nothing is LENT any more", x.bestSwap(1), 6);

        says("3", "BEST SWAP: the two FIELDS (by the ORDER the first, then the second place)");
        valley("head 2;span 9 begins 0;reach a loses 0 in 1 shut 0 to 3;reach b loses 0 in 1;"
                + "field x on a shares 1 needs 0;field y on b shares 1 needs 0;field z on b shares 1 needs 0;", 3);
        gives("first", x.bestSwap(0), 0);
        gives("of several the first", x.bestSwap(1), 1);
        told("six litres", 6, 1);
        x.swap(1, 2);
        gives("first", x.bestSwap(0), 0);
        gives("by places, not by numbers", x.bestSwap(1), 2);
        sequence(0, 2, 1);
        valley("head 2;span 9 begins 0;reach a loses 0 in 1 shut 6 to 9;reach b loses 0 in 1;"
                + "field x on b shares 1 needs 0;field y on b shares 1 needs 0;field z on a shares 1 needs 0;", 3);
        sequence(2, 0, 1);
        refused("none brings more", x.bestSwap(0), 6);
        x.swap(2, 1);
        gives("the first place", x.bestSwap(0), 1);
        gives("the second place", x.bestSwap(1), 2);
        valley("head 1;span 2 begins 0;reach a loses 0 in 1 shut 0 to 1;reach b loses 0 in 1;"
                + "field x on a shares 1 needs 0;field y on b shares 1 needs 0;", 2);
        gives("the least that is more", x.bestSwap(0), 0);
        told("a litre", 1, 1);
    }

    public static void main(String[] args) {
        turns();
        swaps();
        loans();
        debts();
        slots();
        lettings();
        water();
        shortOnes();
        fewestOnes();
        worths();
        offAndDry();
        heads();
        bestOnes();
        finish("the edges of TURNS and water hold");
    }
}
