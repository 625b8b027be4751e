import java.util.Random;

/** Calls of any kind with any numbers: none throws, and one with another STATUS than 0 changes nothing. */
public final class AnyCalls {
    private static final Random RANDOM = new Random(57);
    private static final String[] PIECES = ("head span begins reach of loses in carries shut to owner field on shares "
            + "needs by open swap lend pay flow dry pass when turn owes rich loop end stop a b c up low abcdefghi "
            + "; ; ; ; ; ; < > = 0 1 2 5 12 60 99 100 999 1440 9999 12345 & A").split(" ");
    private static final String GOOD = "head 30;span 40 begins 1430;reach up loses 1 in 4 shut 0 to 3;"
            + "reach low of up loses 1 in 3 carries 9;owner o;field a on up shares 1 needs 90 by o;"
            + "field b on low shares 2 needs 10;field c on low shares 3 needs 0 by o;";
    private static final String DAYS = "lend a b 2;when owes b>1;dry 9;end;loop 7;pass;shut low;dry 5;end;pay b a;";
    private static int wrong = 0;

    private static int any() {
        switch (RANDOM.nextInt(9)) {
            case 0:
                return RANDOM.nextInt();
            case 1:
                return Integer.MIN_VALUE;
            case 2:
                return Integer.MAX_VALUE;
            case 3:
                return RANDOM.nextInt(2000) - 500;
            default:
                return RANDOM.nextInt(6) - 1;
        }
    }

    private static int feed(WaterTurns x, String text) {
        for (int at = 0; at < text.length(); at += 20) {
            int[] ints = new int[5];
            for (int k = 0; k < 20; k++) {
                int c = at + k < text.length() ? text.charAt(at + k) : 0;
                ints[k / 4] |= c << (24 - 8 * (k % 4));
            }
            x.feed(ints[0], ints[1], ints[2], ints[3], ints[4]);
        }
        return text.length();
    }

    /** A text that is nearly right, or made of any TOKENS. */
    private static String text(String good) {
        StringBuilder text = new StringBuilder();
        if (RANDOM.nextInt(3) > 0) {
            text.append(good);
            int many = RANDOM.nextInt(3);
            for (int k = 0; k < many; k++) {
                int at = RANDOM.nextInt(text.length());
                text.replace(at, Math.min(text.length(), at + RANDOM.nextInt(4)),
                        RANDOM.nextBoolean() ? "" : PIECES[RANDOM.nextInt(PIECES.length)]);
            }
        } else {
            int many = RANDOM.nextInt(30);
            for (int k = 0; k < many; k++) {
                text.append(PIECES[RANDOM.nextInt(PIECES.length)]).append(RANDOM.nextInt(3) > 0 ? " " : "");
            }
        }
        return text.toString();
    }

    private static void call(WaterTurns x, int which) {
        int a = any();
        int b = any();
        switch (which) {
            case 0: x.tray(a, b, any()); break;
            case 1: x.write(a, b, RANDOM.nextLong()); break;
            case 2: x.read(a, b); break;
            case 3: x.pour(a, b, any(), any(), any()); break;
            case 4: x.valley(RANDOM.nextBoolean() ? a : feed(x, text(GOOD))); break;
            case 5: x.days(RANDOM.nextBoolean() ? a : feed(x, text(DAYS))); break;
            case 6: x.told(a); break;
            case 7: x.reach(a, b); break;
            case 8: x.field(a, b); break;
            case 9: x.below(a); break;
            case 10: x.order(a); break;
            case 11: x.turn(a, b); break;
            case 12: x.swap(a, b); break;
            case 13: x.lend(a, b, any()); break;
            case 14: x.owed(a, b); break;
            case 15: x.slots(); break;
            case 16: x.slot(a, b); break;
            case 17: x.whose(a); break;
            case 18: x.minutes(a, b); break;
            case 19: x.close(a, RANDOM.nextBoolean()); break;
            case 20: x.head(a); break;
            case 21: x.lets(a, b); break;
            case 22: x.rate(a); break;
            case 23: x.water(a); break;
            case 24: x.lost(a); break;
            case 25: x.runsOut(a); break;
            case 26: x.waterOf(a); break;
            case 27: x.lacking(a); break;
            default: otherCall(x, which, a, b); break;
        }
    }

    private static void otherCall(WaterTurns x, int which, int a, int b) {
        switch (which) {
            case 28: x.spare(a); break;
            case 29: x.fewest(); break;
            case 30: x.neediest(); break;
            case 31: x.richest(RANDOM.nextBoolean()); break;
            case 32: x.mending(); break;
            case 33: x.off(); break;
            case 34: x.driest(); break;
            case 35: x.waits(a, b); break;
            case 36: x.headFor(a); break;
            case 37: x.shadow(); break;
            case 38: x.bestSwap(a); break;
            case 39: x.debts(); break;
            case 40: x.balance(a); break;
            case 41: x.mean(a, b); break;
            case 42: x.gaps(a, b); break;
            case 43: x.suspects(a); break;
            case 44: x.pass(); break;
            case 45: x.account(a); break;
            case 46: x.live(a); break;
            case 47: x.lived(a); break;
            case 48: x.odds(a, b, any(), any()); break;
            case 49: x.mark(); break;
            default: x.back(); break;
        }
    }

    /** All that calls can tell without changing more than STATUS and the FRACTION. */
    private static long digest(WaterTurns x) {
        long sum = x.top() * 31 + x.bottom();
        for (int what = 0; what < 9; what++) {
            sum = sum * 31 + x.told(what);
        }
        for (int a = 0; a < 10; a++) {
            sum = sum * 31 + x.order(a);
            sum = sum * 31 + x.account(a);
            sum = sum * 31 + x.lived(a);
            for (int b = 0; b < 10; b++) {
                sum = sum * 31 + x.reach(a, b);
                sum = sum * 31 + x.field(a, b);
                sum = sum * 31 + x.owed(a, b);
                sum = sum * 31 + x.slot(a, b);
                sum = sum * 31 + x.read(a, b);
            }
        }
        return sum;
    }

    public static void main(String[] args) {
        int runs = args.length > 0 ? Integer.parseInt(args[0]) : 300;
        for (int run = 0; run < runs; run++) {
            WaterTurns x = new WaterTurns();
            if (run % 3 != 0) {
                x.valley(feed(x, GOOD));
                x.days(feed(x, DAYS));
            }
            for (int k = 0; k < 200; k++) {
                int which = RANDOM.nextInt(51);
                long ahead = digest(x);
                call(x, which);
                if (x.status() < 0 || x.status() > 9) {
                    wrong++;
                    System.out.println("STATUS " + x.status() + " behind call " + which);
                }
                if (x.status() != 0 && digest(x) != ahead) {
                    wrong++;
                    System.out.println("a call of kind " + which + " with another STATUS than 0 changed something");
                }
            }
        }
        System.out.println(wrong == 0 ? "any calls are answered" : wrong + " calls went wrong");
        if (wrong != 0) {
            System.exit(1);
        }
    }
}
