import java.util.ArrayList;
import java.util.List;

/** Each sentence of the document that names an edge of the texts: the tape, TOKENS, a VALLEY, FAULTS. */
public final class BoundaryTexts extends Checks {
    private static final String R = "reach a loses 1 in 2;";
    private static final String WHOLE = "head 9 ; span 8 begins 7 ; reach a loses 1 in 2 ; reach b of a loses 0 in 12 "
            + "carries 3 shut 4 to 5 ; owner o ; field x on b shares 6 needs 7 by o ; field y on a shares 1 needs 2 ;";
    private static final String[] KEYWORDS = ("head span begins reach of loses in carries shut to owner field on "
            + "shares needs by open swap lend pay flow dry pass when turn owes rich loop end stop").split(" ");

    // ---- the tape

    private static void feedings() {
        says("9", "Twenty bytes come behind those on the tape, the highest of each int first");
        // "head 1;s" "pan " "2 be" "gins" | " 3; "
        due("the first twenty", x.feed(0x68656164, 0x20313B73, 0x70616E20, 0x32206265, 0x67696E73), 20);
        due("behind those", x.feed(0x20333B20, 0x20202020, 0x20202020, 0x20202020, 0x2020200A), 40);
        gives("valley", x.valley(40), 0);
        gives("HEAD", x.told(0), 1);
        gives("SPAN", x.told(1), 2);
        gives("BEGINS", x.told(2), 3);
        due("the tape is empty then", x.feed(0, 0, 0, 0, 0), 20);

        says("9", "NONE if there would be more than 900");
        for (int k = 1; k <= 45; k++) {
            due("feed " + k, x.feed(0x20202020, 0x20202020, 0x20202020, 0x20202020, 0x20202020), 20 * k);
        }
        due("a 46th", x.feed(0x26262626, 0, 0, 0, 0), NONE);
        due("and again", x.feed(0x26262626, 0, 0, 0, 0), NONE);
        refused("nothing came behind", x.valley(901), 1);
        gives("the 900 are as they were", x.valley(900), 0);

        says("Terms", "A VALLEY is a TEXT of at most 900 bytes");
        valley("head 7;" + times(882, " ") + "owner abcd;", 0);
        gives("its last PART is read", x.told(4), 1);
        badValley("head 7;" + times(887, " ") + "owner", 2, 899);
        badValley(times(899, "\n") + "&", 1, 899);
        badValley(times(900, "a"), 2, 0);
        badValley(times(900, "7"), 1, 0);

        says("10", "n below 0, or more than the tape has, too");
        refused("one of none", x.valley(1), 1);
        gives("none of none", x.valley(0), 0);
        feed("head 5;");
        refused("below 0", x.valley(-1), 1);
        refused("far below", x.valley(MIN), 1);
        refused("one more than the tape has", x.valley(21), 1);
        refused("far more", x.valley(MAX), 1);
        due("fault() stays", x.fault(0), 0);
        gives("the tape stayed", x.valley(7), 0);
        gives("HEAD", x.told(0), 5);

        says("10", "The first n bytes of the tape (which is empty then) are the VALLEY");
        feed("head 5;head 6;");
        gives("the first seven alone", x.valley(7), 0);
        refused("what was behind is gone", x.valley(1), 1);
        feed("head 55;");
        refused("cut within a NUMBER", x.valley(6), 9);
        due("the end", x.fault(1), 6);
        refused("the tape is empty behind a FAULT, too", x.valley(1), 1);
        feed("head 8;");
        gives("none of them", x.valley(0), 0);
        gives("HEAD without", x.told(0), 100);
        refused("the tape is empty", x.valley(1), 1);

        says("11", "above 300, too");
        feed(times(301, " "));
        refused("301", x.days(301), 1);
        refused("below 0", x.days(-1), 1);
        refused("far below", x.days(MIN), 1);
        refused("far above", x.days(MAX), 1);
        refused("no DAYS yet", x.live(0), 6);
        gives("300, for the tape stayed", x.days(300), 0);
        refused("the tape is empty then", x.days(1), 1);
        feed("pass;");
        refused("one more than the tape has", x.days(21), 1);
        gives("the tape stayed", x.days(5), 1);

        says("4", "DAYS are a TEXT of at most 300 bytes");
        days(times(295, " ") + "pass;", 1);
        badDays(times(296, " ") + "pass", 2, 300);
        badDays(times(299, " ") + "?", 1, 299);
    }

    // ---- TOKENS

    private static void tokens() {
        says("Terms", "TOKENS, as long as they go");
        valley("head5;span7begins8;", 0);
        gives("HEAD", x.told(0), 5);
        gives("SPAN", x.told(1), 7);
        gives("BEGINS", x.told(2), 8);
        badValley("heads 5;", 2, 0);
        badValley("hea d 5;", 2, 0);
        badValley("head 5 5;", 2, 7);
        badValley("span 5begin 5;", 2, 6);
        badValley("ownera;", 2, 0);

        says("Terms", "between them blanks (10, 32)");
        valley("\n \nhead\n5 \n;\n \n", 0);
        gives("HEAD", x.told(0), 5);
        valley("\n", 0);
        valley(" ", 0);
        for (int c = 0; c < 256; c++) {
            if (c % 64 == 0) {
                says("Terms", "between them blanks (10, 32)");
            }
            byteBetween(c);
        }

        says("Terms", "NUMBERS (1 to 4 digits)");
        valley("head 7;", 0);
        valley("head 0007;", 0);
        gives("HEAD", x.told(0), 7);
        valley("head 0000;", 0);
        gives("HEAD", x.told(0), 0);
        badValley("head 00007;", 1, 5);
        badValley("head 000000000000000000000000000000000000000;", 1, 5);
        badValley("head 4294967301;", 1, 5);
        badValley("reach 12345", 1, 6);
        badValley("12345", 1, 0);
        badValley("1234", 2, 0);

        says("Terms", "SIGNS ; < > =");
        badValley("head <", 2, 5);
        badValley("head >", 2, 5);
        badValley("head =", 2, 5);
        badValley("head ;", 2, 5);
        badValley("head 5;;", 2, 7);
        badValley("head 5&lt;", 1, 6);

        says("Terms", "VALLEY: {PART}");
        valley("", 0);
        valley(WHOLE, 2);
        valley("reach a loses 0 in 1;field x on a shares 1 needs 0;span 6 begins 7;owner o;head 5;", 1);
        gives("HEAD may stand last", x.told(0), 5);
        gives("SPAN", x.told(1), 6);
        gives("the TURN is of that SPAN", x.turn(0, 1), 6);
    }

    /** One byte between head and 5: a blank, part of a TOKEN, a TOKEN, or none. */
    private static void byteBetween(int c) {
        String text = "head" + (char) c + "5;";
        if (c == 10 || c == 32) {
            valley(text, 0);
        } else if (c >= '0' && c <= '9') {
            valley(text, 0);
            gives("HEAD with a digit more", x.told(0), (c - '0') * 10 + 5);
        } else if (c >= 'a' && c <= 'z') {
            badValley(text, 2, 0);
        } else if (c == ';' || c == '<' || c == '>' || c == '=') {
            badValley(text, 2, 4);
        } else {
            badValley(text, 1, 4);
        }
    }

    // ---- where a TOKEN can't stand

    private interface Reading {
        void bad(String text, int fault, int place);
    }

    /** Where each TOKEN begins in a text whose TOKENS have one blank between them. */
    private static List<Integer> begins(String text) {
        List<Integer> places = new ArrayList<>();
        for (int at = 0; at < text.length(); at++) {
            if (text.charAt(at) != ' ' && (at == 0 || text.charAt(at - 1) == ' ')) {
                places.add(at);
            }
        }
        return places;
    }

    private static String with(String text, int place, String token) {
        int behind = text.indexOf(' ', place);
        return text.substring(0, place) + token + (behind < 0 ? "" : text.substring(behind));
    }

    /** A TOKEN that can't stand anywhere, in place of each one of a text. */
    private static void instead(String sentence, String token, int fault, String whole, Reading reading) {
        List<Integer> places = begins(whole);
        for (int k = 0; k < places.size(); k++) {
            if (k % 20 == 0) {
                says("FAULTS", sentence);
                three();
            }
            reading.bad(with(whole, places.get(k), token), fault, places.get(k));
        }
    }

    private static void standing() {
        String days = "shut up ; swap a b ; lend a c 9 ; when owes a < 7 ; pay b c ; end ; when shut low ; flow 5 ; "
                + "loop 3 ; dry 4 ; pass ; end ; end ; when rich c > 0 ; open up ; end ; stop ;";
        String[] texts = {WHOLE, days};
        for (int k = 0; k < 2; k++) {
            boolean isValley = k == 0;
            Reading reading = (text, fault, place) -> {
                if (isValley) {
                    badValley(text, fault, place);
                } else {
                    badDays(text, fault, place);
                }
            };
            instead("1 no TOKEN begins so", "!", 1, texts[k], reading);
            instead("1 no TOKEN begins so", "Head", 1, texts[k], reading);
            instead("a NUMBER of 5 digits and more: at its first", "10000", 1, texts[k], reading);
            instead("2 it can't stand there", "turn", 2, texts[k], reading);
            instead("a WORD of 9 letters and more where a NAME must stand", "abcdefghi", 2, texts[k], reading);
            ends(texts[k], reading);
        }
        says("4", "TEST: shut NAME, or owes NAME COMPARES NUMBER, or rich NAME COMPARES NUMBER");
        three();
        days(days, 13);
        valley(WHOLE, 2);
    }

    /** The text ends behind each of its TOKENS; an end behind a PART, a STEP is none. */
    private static void ends(String whole, Reading reading) {
        List<Integer> places = begins(whole);
        for (int k = 1; k < places.size(); k++) {
            String cut = whole.substring(0, places.get(k));
            boolean isBehindPart = whole.charAt(places.get(k - 1)) == ';';
            if (k % 12 == 1) {
                says("FAULTS", "the end: the text's length");
                three();
            }
            if (!isBehindPart) {
                reading.bad(cut, 2, cut.length());
                reading.bad(cut.trim(), 2, cut.trim().length());
            }
        }
    }

    private static void standingMore() {
        says("FAULTS", "the end: the text's length");
        badValley("head", 2, 4);
        badValley("head  \n", 2, 7);
        badValley("head 5", 2, 6);
        badValley("head 5 \n \n", 2, 10);
        feed("owner o;owner p;");
        refused("the first bytes alone", x.valley(13), 9);
        due("fault", x.fault(0), 2);
        due("place", x.fault(1), 13);
        feed("owner o;owner p;");
        refused("the first bytes alone", x.valley(15), 9);
        due("place", x.fault(1), 15);

        says("FAULTS", "2 it can't stand there");
        badValley("5", 2, 0);
        badValley(";", 2, 0);
        badValley("a", 2, 0);
        badValley("end;", 2, 0);
        badValley("reach a loses 1 in 2 shut 4 to 5 carries 3;", 2, 33);
        badValley("reach a loses 1 in 2 carries 3 carries 3;", 2, 31);
        badValley("reach a loses 1 in 2 of a;", 2, 21);
        badValley(R + "field x on a needs 1 shares 1;", 2, 34);
        badValley(R + "field x on a shares 1 needs 1 by;", 2, 53);
        badValley("owner o;" + R + "field x on a shares 1 needs 1 by o by o;", 2, 64);
        badValley("span 5;", 2, 6);
        badValley("begins 5;", 2, 0);

        says("Terms", "NAME: a WORD of 1 to 8 letters");
        valley("owner a;owner abcdefgh;owner abcdefgi;owner z;owner zzzzzzzz;owner aa;", 0);
        badValley("owner abcdefghi;", 2, 6);
        badValley("owner abcdefghijklmnopqrstuvwxyz;", 2, 6);
        badValley("reach abcdefghi loses 0 in 1;", 2, 6);
        badValley("reach a of abcdefghi", 2, 11);
        badValley(R + "field abcdefghi on a", 2, 27);
        badValley(R + "field x on abcdefghi", 2, 32);
        badValley(R + "field x on a shares 1 needs 1 by abcdefghi;", 2, 54);

        for (int k = 0; k < KEYWORDS.length; k++) {
            keyword(KEYWORDS[k]);
        }
        due("so many words", KEYWORDS.length, 30);
    }

    private static void keyword(String word) {
        says("Terms", "that is none of head, span, begins, reach, ..");
        badValley("owner " + word + ";", 2, 6);
        badValley("reach " + word + " loses 0 in 1;", 2, 6);
        badValley("reach a of " + word + " loses 0 in 1;", 2, 11);
        badValley(R + "field " + word + " on a shares 1 needs 0;", 2, 27);
        badValley(R + "field x on " + word + " shares 1 needs 0;", 2, 32);
        badValley(R + "field x on a shares 1 needs 0 by " + word + ";", 2, 54);
        if (word.length() < 8) {
            valley("owner " + word + "x;owner x" + word + ";", 0);
        }
        valley("owner " + word.substring(0, word.length() - 1) + ";", 0);
        three();
        badDays("shut " + word + ";", 2, 5);
        badDays("pay a " + word + ";", 2, 6);
    }

    // ---- NAMES and NUMBERS

    private static void names() {
        String[] kinds = {"reach n loses 0 in 1;", "owner n;", "field n on r shares 1 needs 0;"};
        String ahead = "reach r loses 0 in 1;";
        for (String first : kinds) {
            for (String second : kinds) {
                says("Terms", "One NAME is of one thing alone");
                valley(ahead + first + second.replaceFirst(" n", " m"), (first + second).split("field").length - 1);
                badValley(ahead + first + second, 3, (ahead + first).length() + 6);
            }
        }
        says("FAULTS", "3 a new NAME that is taken");
        badValley("owner abcdefgh;owner abcdefgh;", 3, 21);
        valley("owner abcdefgh;owner bbcdefgh;owner abcdefgi;owner abcdefg;owner bcdefgh;", 0);
        valley("owner a;owner aa;owner aaa;owner aaaa;owner aaaaa;owner aaaaaa;", 0);
        valley("owner o;", 0);
        valley("owner o;", 0);
        gives("NAMES of the VALLEY ahead are free", x.told(4), 1);

        says("FAULTS", "a NAME that is no such thing told ahead");
        badValley("reach a of a loses 0 in 1;", 3, 11);
        badValley("reach a of b loses 0 in 1;reach b loses 0 in 1;", 3, 11);
        badValley("owner o;reach a of o loses 0 in 1;", 3, 19);
        badValley("field x on a shares 1 needs 0;" + R, 3, 11);
        badValley("owner o;field x on o shares 1 needs 0;", 3, 19);
        badValley(R + "field x on x shares 1 needs 0;", 3, 32);
        badValley(R + "field x on a shares 1 needs 0;field y on x shares 1 needs 0;", 3, 62);
        badValley(R + "field x on a shares 1 needs 0 by o;owner o;", 3, 54);
        badValley(R + "field x on a shares 1 needs 0 by a;", 3, 54);
        badValley(R + "owner o;field x on a shares 1 needs 0 by x;", 3, 62);
        valley(R, 0);
        badValley("reach b of a loses 0 in 1;", 3, 11);
    }

    /** A text with a NUMBER at a place: it is taken from the least to the most, else a FAULT 4 there. */
    private static void range(String sentence, String ahead, int least, int most, String behind) {
        says("Terms", sentence);
        int fields = (ahead + behind).contains("field") ? 1 : 0;
        valley(ahead + least + behind, fields);
        valley(ahead + most + behind, fields);
        if (least > 0) {
            badValley(ahead + (least - 1) + behind, 4, ahead.length());
            badValley(ahead + "0" + behind, 4, ahead.length());
        }
        if (most < 9999) {
            badValley(ahead + (most + 1) + behind, 4, ahead.length());
            badValley(ahead + "9999" + behind, 4, ahead.length());
        }
    }

    private static void numbers() {
        range("litres a minute that come in (0 to 999", "head ", 0, 999, ";");
        range("so many minutes (1 to 1,440", "span ", 1, 1440, " begins 0;");
        range("a minute of the day (0 to 1,439; 0 without)", "span 1 begins ", 0, 1439, ";");
        range("it LOSES so many parts (0 to 11)", "reach a loses ", 0, 11, " in 12;");
        for (int loses = 0; loses < 12; loses++) {
            range("in so many (one more than these at least, 12 at most)", "reach a loses " + loses + " in ", loses + 1,
                    12, ";");
        }
        range("CARRIES at most so many litres a minute (1 to 999", "reach a loses 0 in 1 carries ", 1, 999, ";");
        range("SHUT from a minute of the day (0 to 1,439)", "reach a loses 0 in 1 shut ", 0, 1439, " to 1440;");
        range("to another one (1 to 1,440, above it", "reach a loses 0 in 1 shut 0 to ", 1, 1440, ";");
        range("to another one (1 to 1,440, above it", "reach a loses 0 in 1 shut 700 to ", 701, 1440, ";");
        range("to another one (1 to 1,440, above it", "reach a loses 0 in 1 shut 1439 to ", 1440, 1440, ";");
        range("SHARES (1 to 99)", R + "field x on a shares ", 1, 99, " needs 0;");
        range("NEEDS litres a SPAN (0 to 9,999)", R + "field x on a shares 1 needs ", 0, 9999, ";");

        says("Terms", "100 without");
        valley("span 1 begins 2;", 0);
        gives("HEAD", x.told(0), 100);
        valley("head 0;", 0);
        gives("0 is told", x.told(0), 0);
        says("Terms", "1,440 without), it BEGINS in a minute of the day (0 to 1,439; 0 without)");
        valley("span 7 begins 9;", 0);
        for (int k = 0; k < 3; k++) {
            valley("head 1;", 0);
            gives("SPAN", x.told(1), 1440);
            gives("BEGINS", x.told(2), 0);
        }
        says("Terms", "without: any");
        valley("head 999;reach a loses 0 in 1;field x on a shares 1 needs 0;", 1);
        refused("CARRIES any", x.reach(0, 3), 6);
        fraction("RATE", x.rate(0), 999, 1);
    }

    // ---- how many there may be

    private static String many(int n, String ahead, String behind) {
        StringBuilder text = new StringBuilder();
        for (int k = 0; k < n; k++) {
            text.append(ahead).append((char) ('a' + k)).append(behind);
        }
        return text.toString();
    }

    private static void most() {
        says("Terms", "REACHES, at most 10");
        String ten = many(10, "reach ", " loses 0 in 1;");
        valley(ten, 0);
        gives("REACHES", x.told(3), 10);
        gives("the last one", x.reach(9, 2), 1);
        badValley(ten + "reach k loses 0 in 1;", 6, ten.length());
        gives("the old one stays", x.told(3), 10);

        says("Terms", "OWNERS, at most 6");
        String six = many(6, "owner ", ";");
        valley(six, 0);
        gives("OWNERS", x.told(4), 6);
        gives("the last one", x.balance(5), 0);
        badValley(six + "owner g;", 6, six.length());

        says("Terms", "FIELDS, at most 10");
        String fields = "reach r loses 0 in 1;" + many(10, "field x", " on r shares 1 needs 0;");
        valley(fields, 10);
        gives("FIELDS", x.told(5), 10);
        gives("the last one", x.field(9, 1), 1);
        badValley(fields + "field k on r shares 1 needs 0;", 6, fields.length());

        says("FAULTS", "6 one more reach, owner, field than there may be (at that WORD)");
        badValley(ten + "reach a", 6, ten.length());
        badValley(ten + "reach &", 6, ten.length());
        badValley(ten + "reach", 6, ten.length());
        badValley(six + "owner a;", 6, six.length());
        badValley(six + "owner", 6, six.length());
        badValley(fields + "field 12345", 6, fields.length());
        badValley(fields + "field", 6, fields.length());
        valley(ten + many(6, "owner x", ";") + many(10, "field y", " on j shares 1 needs 0;"), 10);

        says("FAULTS", "5 head, span told already (at that WORD)");
        badValley("head 5;head 5;", 5, 7);
        badValley("head 0;head", 5, 7);
        badValley("head 5;head 12345;", 5, 7);
        badValley("span 1 begins 0;span 1 begins 0;", 5, 16);
        badValley("span 1 begins 0;span", 5, 16);
        badValley("head 5;span 1 begins 0; head", 5, 24);
        valley("head 5;", 0);
        valley("head 6;", 0);
        gives("told in the VALLEY ahead", x.told(0), 6);

        says("FAULTS", "the first along the text");
        badValley("head 1000;&", 4, 5);
        badValley("head 5;head &", 5, 7);
        badValley("owner o;owner o;head 1000;", 3, 14);
        badValley("head ; &", 2, 5);
        badValley("& head ;", 1, 0);
        badValley("reach a loses 12 in 13;", 4, 14);

        says("FAULTS", "of one TOKEN the least kind");
        badValley("owner o;reach a of 12345", 1, 19);
        badValley("head 99999;", 1, 5);
        badValley("owner head;", 2, 6);
        badValley("reach a of owner", 2, 11);
        badValley(R + "reach reach", 2, 27);
    }

    // ---- a VALLEY that is taken, and one that is not

    private static void change() {
        three();
        x.swap(0, 2);
        x.head(77);
        x.close(1, true);
        x.pass();
        x.lend(0, 1, 3);
        days("flow 3;", 1);
    }

    private static void taken() {
        says("Terms", "A VALLEY that is taken is there in place of that ahead");
        change();
        three();
        gives("HEAD as told", x.told(0), 12);
        gives("nothing is CLOSED", x.told(7), 0);
        gives("nothing is swapped", x.order(0), 0);
        gives("nor the last", x.order(2), 2);
        gives("nothing is lent", x.told(8), 0);
        gives("SLOTS are TURNS", x.slots(), 3);
        gives("nothing is owed", x.owed(1, 0), 0);
        gives("no DEBTS", x.debts(), 0);
        gives("it is SPAN 0", x.told(6), 0);
        gives("ACCOUNTS are 0", x.account(0) + x.account(1) + x.account(2), 0);
        refused("there are no DAYS", x.live(0), 6);
        denied("there are no DAYS", x.odds(0, 0, 0, 1), 6);
        change();
        valley("", 0);
        gives("an empty one, too: FIELDS", x.told(5), 0);
        gives("REACHES", x.told(3), 0);
        gives("OWNERS", x.told(4), 0);
        gives("HEAD", x.told(0), 100);
        gives("SPAN 0", x.told(6), 0);
        gives("CLOSED", x.told(7), 0);
        gives("LOANS", x.told(8), 0);
        refused("no FIELD", x.account(0), 1);

        says("10", "the old one stays");
        change();
        badValley(THREE + "head 5;", 5, THREE.length());
        gives("HEAD", x.told(0), 77);
        gives("CLOSED", x.told(7), 2);
        gives("ORDER", x.order(0), 2);
        gives("LOANS", x.told(8), 1);
        gives("OWED", x.owed(1, 0), 3);
        gives("SPAN", x.told(6), 1);
        gives("ACCOUNT", x.account(0), 577);
        gives("DAYS", x.live(0), 1);
        gives("which were done", x.told(0), 3);

        says("10", "the old one stays");
        three();
        String other = "head 9;span 8 begins 7;owner p;reach r loses 0 in 1 shut 1 to 2;field y on r shares 5 needs 6;";
        badValley(other + "&", 1, other.length());
        int[] told = {12, 60, 0, 2, 2, 3};
        for (int what = 0; what < told.length; what++) {
            gives("told " + what, x.told(what), told[what]);
        }
        gives("REACH 0", x.reach(0, 2), 4);
        refused("never SHUT", x.reach(0, 4), 6);
        gives("FIELD 0", x.field(0, 2), 90);
        days("shut up;swap a b;", 2);
        badDays("shut r;", 3, 5);

        says("10", "in place of that ahead");
        String twelfths = "reach a loses 0 in 12;";
        for (char c = 'b'; c < 'k'; c++) {
            twelfths += "reach " + c + " of " + (char) (c - 1) + " loses 0 in 12;";
        }
        for (int k = 0; k < 6; k++) {
            valley("head 999;" + twelfths + "field x on j shares 9 needs 1;", 1);
            fraction("again and again", x.water(0), 1438560, 1);
        }

        says("11", "Likewise the DAYS");
        three();
        days("flow 3;pass;", 2);
        badDays("flow 4;pass;pass", 2, 16);
        refused("the tape is empty", x.days(1), 1);
        gives("the old ones stay", x.live(0), 2);
        gives("HEAD", x.told(0), 3);
        days("flow 5;", 1);
        gives("new ones in their place", x.live(0), 1);
        gives("HEAD", x.told(0), 5);
        gives("nothing else is taken back", x.told(6), 1);

        says("12", "Of the latest valley() or days() with STATUS 0 or 9");
        due("ahead of any", x.fault(0), NONE);
        due("ahead of any", x.fault(1), NONE);
        x.valley(1);
        x.days(-1);
        due("STATUS 1 is none", x.fault(0), NONE);
        badValley("head 1000;", 4, 5);
        x.valley(-1);
        x.days(301);
        x.told(99);
        due("stays", x.fault(0), 4);
        due("stays", x.fault(1), 5);
        days("", 0);
        badDays("& ", 1, 0);
        valley("", 0);

        says("12", "NONE for others");
        badValley("head", 2, 4);
        int[] others = {2, -1, 9, MIN, MAX};
        for (int what : others) {
            due("fault " + what, x.fault(what), NONE);
        }
        due("has no STATUS", x.status(), 9);
    }

    // ---- what is told of them

    private static void toldThings() {
        says("Terms", "All are numbered as they stand");
        valley("owner p;reach b loses 1 in 2;owner o;reach a of b loses 3 in 4;field y on a shares 5 needs 6 by o;"
                + "reach c of b loses 7 in 8;field x on b shares 9 needs 10 by p;", 2);
        gives("REACH 1", x.reach(1, 1), 3);
        gives("OF", x.reach(1, 0), 0);
        gives("REACH 2", x.reach(2, 1), 7);
        gives("FIELD 0", x.field(0, 1), 5);
        gives("OWNER 1", x.field(0, 3), 1);
        gives("FIELD 1", x.field(1, 1), 9);
        gives("OWNER 0", x.field(1, 3), 0);

        says("13", "(8) (1)");
        int[] others = {-1, 9, MIN, MAX};
        for (int what : others) {
            refused("told " + what, x.told(what), 1);
        }
        for (int what = 0; what < 9; what++) {
            due("told " + what, x.told(what), what == 0 ? 100 : what == 1 ? 1440 : 0);
        }

        says("13", "the set of REACHES (1 for REACH 0 ..) that are CLOSED");
        valley(many(10, "reach ", " loses 0 in 1;"), 0);
        for (int reach = 0; reach < 10; reach++) {
            did("close", x.close(reach, true));
            gives("set", x.told(7), (2 << reach) - 1);
        }
        for (int reach = 9; reach >= 0; reach--) {
            did("open", x.close(reach, false));
            gives("set", x.told(7), (1 << reach) - 1);
        }

        says("14", "the one it is OF (6: the head)");
        valley("reach a loses 0 in 1;reach b of a loses 0 in 1 carries 1 shut 0 to 1;", 0);
        refused("of the head", x.reach(0, 0), 6);
        gives("of REACH 0, which is none of NONE", x.reach(1, 0), 0);
        says("14", "what it CARRIES (6: any), 4: SHUT from (6: never), 5: to (6)");
        valley("reach a loses 0 in 1;reach b of a loses 0 in 1 carries 1 shut 0 to 1;", 0);
        refused("any", x.reach(0, 3), 6);
        refused("never", x.reach(0, 4), 6);
        refused("never", x.reach(0, 5), 6);
        gives("1", x.reach(1, 3), 1);
        gives("from the first minute", x.reach(1, 4), 0);
        gives("to 1", x.reach(1, 5), 1);
        int[][] bad = {{-1, 0}, {2, 0}, {0, -1}, {0, 6}, {10, 0}, {MIN, 0}, {MAX, 0}, {0, MIN}, {0, MAX}};
        for (int[] b : bad) {
            refused("reach " + b[0] + "," + b[1], x.reach(b[0], b[1]), 1);
        }

        says("15", "the OWNER (6: none) (1)");
        three();
        gives("the REACH", x.field(0, 0), 0);
        gives("the REACH", x.field(2, 0), 1);
        refused("none", x.field(2, 3), 6);
        gives("OWNER 0 is none of NONE", x.field(0, 3), 0);
        int[][] none = {{-1, 0}, {3, 0}, {0, -1}, {0, 4}, {10, 0}, {MIN, 0}, {MAX, 0}, {0, MIN}, {0, MAX}};
        for (int[] b : none) {
            refused("field " + b[0] + "," + b[1], x.field(b[0], b[1]), 1);
        }

        says("16", "The set of FIELDS (1 for FIELD 0 ..) on a REACH or below it (1)");
        valley("reach a loses 0 in 1;reach b loses 0 in 1;reach c of b loses 0 in 1;"
                + many(9, "field x", " on c shares 1 needs 0;") + "field y on a shares 1 needs 0;", 10);
        gives("below a", x.below(0), 512);
        gives("below b", x.below(1), 511);
        gives("on c", x.below(2), 511);
        valley("reach a loses 0 in 1;", 0);
        gives("none", x.below(0), 0);
        int[] reaches = {-1, 1, 10, MIN, MAX};
        for (int reach : reaches) {
            refused("below " + reach, x.below(reach), 1);
        }
    }

    public static void main(String[] args) {
        feedings();
        tokens();
        standing();
        standingMore();
        names();
        numbers();
        most();
        taken();
        toldThings();
        finish("the edges of the texts hold");
    }
}
