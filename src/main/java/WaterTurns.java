import java.util.Arrays;

/** The water of a valley shared by turns. What each call promises is told in the project's document. */
public final class WaterTurns {

    public static final int NONE = -1;

    private static final int FINE = 0;
    private static final int BAD_NUMBER = 1;
    private static final int IS_MISSING = 2;
    private static final int NO_PLACE = 3;
    private static final int TOO_MANY = 4;
    private static final int BAD_IN_TRAY = 5;
    private static final int NONE_SUCH = 6;
    private static final int CANNOT_BE = 7;
    private static final int UNLIKE_SORTS = 8;
    private static final int FAULTY = 9;

    private static final int FAULT_TOKEN = 1;
    private static final int FAULT_STAND = 2;
    private static final int FAULT_NAME = 3;
    private static final int FAULT_NUMBER = 4;
    private static final int FAULT_AGAIN = 5;
    private static final int FAULT_TOO_MANY = 6;
    private static final int FAULT_TOO_DEEP = 7;

    private static final int DAY = 1440;
    private static final int MOST_TRAYS = 4;
    private static final int MOST_NUMBERS = 60;
    private static final int MOST_BYTES = 900;
    private static final int MOST_DAYS_BYTES = 300;
    private static final int MOST_REACHES = 10;
    private static final int MOST_OWNERS = 6;
    private static final int MOST_FIELDS = 10;
    private static final int MOST_LOANS = 12;
    private static final int MOST_SLOTS = MOST_FIELDS + MOST_LOANS;
    private static final int MOST_HEAD = 999;
    private static final int MOST_LENT = 999;
    private static final int MOST_SHORT = 999999;
    private static final int MOST_READING = 999999;
    private static final int MOST_SPANS = 99;
    private static final int MOST_SEED = 9999;
    private static final int MOST_LITRES = 9999;
    private static final int MOST_ODDS = 10;
    private static final int MOST_MARKS = 3;
    private static final int MOST_STEPS = 30;
    private static final int MOST_LINES = 2 * MOST_STEPS;
    private static final int MOST_NESTED = 3;
    private static final int MOST_DONE = 300;
    private static final int MOST_LETTERS = 8;
    private static final int MOST_DIGITS = 4;

    /** The cells of a REACH, in the order in which reach() tells them. */
    private static final int OF = 0;
    private static final int LOSES = 1;
    private static final int IN = 2;
    private static final int CARRIES = 3;
    private static final int SHUT_FROM = 4;
    private static final int SHUT_TO = 5;
    private static final int REACH_CELLS = 6;

    /** The cells of a FIELD, in the order in which field() tells them. */
    private static final int ON = 0;
    private static final int SHARES = 1;
    private static final int NEEDS = 2;
    private static final int BY = 3;
    private static final int FIELD_CELLS = 4;

    /** The words that are no NAMES; the numbers below are their places here. */
    private static final String KEYWORDS = "head span begins reach of loses in carries shut to owner field on shares needs by open swap lend pay flow dry pass when turn owes rich loop end stop ";
    private static final int MOST_KEYWORDS = 30;
    private static final int K_HEAD = 0;
    private static final int K_SPAN = 1;
    private static final int K_BEGINS = 2;
    private static final int K_REACH = 3;
    private static final int K_OF = 4;
    private static final int K_LOSES = 5;
    private static final int K_IN = 6;
    private static final int K_CARRIES = 7;
    private static final int K_SHUT = 8;
    private static final int K_TO = 9;
    private static final int K_OWNER = 10;
    private static final int K_FIELD = 11;
    private static final int K_ON = 12;
    private static final int K_SHARES = 13;
    private static final int K_NEEDS = 14;
    private static final int K_BY = 15;
    private static final int K_OPEN = 16;
    private static final int K_SWAP = 17;
    private static final int K_LEND = 18;
    private static final int K_PAY = 19;
    private static final int K_FLOW = 20;
    private static final int K_DRY = 21;
    private static final int K_PASS = 22;
    private static final int K_WHEN = 23;
    private static final int K_OWES = 25;
    private static final int K_RICH = 26;
    private static final int K_LOOP = 27;
    private static final int K_END = 28;
    private static final int K_STOP = 29;

    private final Trays trays = new Trays();
    private final Tape tape = new Tape();
    private final World world = new World();
    private final Sweep sweep = new Sweep();
    private final Life life = new Life();
    private final Standing kept = new Standing();
    private final World[] marks = new World[MOST_MARKS];
    private final int[] latestLife = new int[4];
    private Valley spareValley = new Valley();
    private Days spareDays = new Days();
    private boolean hasLived = false;
    private int markCount = 0;
    private int latestStatus = FINE;
    private long fractionTop = 0;
    private long fractionBottom = 1;

    public WaterTurns() {
    }

    // ---- answers

    private int answer(int value) {
        latestStatus = FINE;
        return value;
    }

    private int refuse(int why) {
        latestStatus = why;
        return NONE;
    }

    private boolean settle(int why) {
        latestStatus = why;
        return why == FINE;
    }

    private int answerOrNone(int value) {
        return value == NONE ? refuse(NONE_SUCH) : answer(value);
    }

    private boolean tellFraction(long top, long bottom) {
        long divisor = commonDivisor(top, bottom);
        fractionTop = top / divisor;
        fractionBottom = bottom / divisor;
        return settle(FINE);
    }

    private static long commonDivisor(long a, long b) {
        long big = a;
        long small = b;
        for (int round = 0; round < 200 && small != 0; round++) {
            long rest = big % small;
            big = small;
            small = rest;
        }
        return Math.max(1, big);
    }

    private boolean isReach(int reach) {
        return reach >= 0 && reach < world.valley.reaches;
    }

    private boolean isOwner(int owner) {
        return owner >= 0 && owner < world.valley.owners;
    }

    private boolean isField(int field) {
        return field >= 0 && field < world.valley.fields;
    }

    private boolean isCouple(int a, int b) {
        return isField(a) && isField(b) && a != b;
    }

    private boolean isMinute(int minute) {
        return minute >= 0 && minute < world.valley.span;
    }

    private static boolean isWithin(int value, int least, int most) {
        return value >= least && value <= most;
    }

    public int status() {
        return latestStatus;
    }

    public long top() {
        return fractionTop;
    }

    public long bottom() {
        return fractionBottom;
    }

    // ---- TRAYS

    public boolean tray(int tray, int sort, int many) {
        if (!Trays.isTray(tray) || !isWithin(sort, 0, 3) || !isWithin(many, 0, MOST_NUMBERS)) {
            return settle(BAD_NUMBER);
        }
        trays.lay(tray, sort, many);
        return settle(FINE);
    }

    public boolean write(int tray, int place, long v) {
        int why = trays.whyNoPlace(tray, place);
        if (why == FINE) {
            trays.put(tray, place, v);
        }
        return settle(why);
    }

    public long read(int tray, int place) {
        int why = trays.whyNoPlace(tray, place);
        if (why != FINE) {
            return refuse(why);
        }
        settle(FINE);
        return trays.rows[tray][place];
    }

    public boolean pour(int from, int place, int to, int at, int many) {
        if (!Trays.isTray(from) || !Trays.isTray(to) || place < 0 || at < 0 || many < 0) {
            return settle(BAD_NUMBER);
        }
        if (trays.isMissing(from) || trays.isMissing(to)) {
            return settle(IS_MISSING);
        }
        if (trays.sort[from] != trays.sort[to]) {
            return settle(UNLIKE_SORTS);
        }
        if (!trays.holds(from, place, many) || !trays.holds(to, at, many)) {
            return settle(NO_PLACE);
        }
        System.arraycopy(trays.rows[from], place, trays.rows[to], at, many);
        return settle(FINE);
    }

    // ---- texts

    public int feed(int a, int b, int c, int d, int e) {
        return tape.hasRoom(20) ? tape.add(a, b, c, d, e) : NONE;
    }

    public int valley(int n) {
        if (!isWithin(n, 0, tape.many)) {
            return refuse(BAD_NUMBER);
        }
        boolean isTaken = ValleyReader.takes(tape, n, spareValley);
        tape.many = 0;
        if (!isTaken) {
            return refuse(FAULTY);
        }
        Valley old = world.valley;
        world.valley = spareValley;
        spareValley = old;
        world.begin();
        return answer(world.valley.fields);
    }

    public int days(int n) {
        if (!isWithin(n, 0, Math.min(tape.many, MOST_DAYS_BYTES))) {
            return refuse(BAD_NUMBER);
        }
        boolean isTaken = DaysReader.takes(tape, n, world.valley, spareDays);
        tape.many = 0;
        if (!isTaken) {
            return refuse(FAULTY);
        }
        Days old = world.days;
        world.days = spareDays;
        spareDays = old;
        return answer(world.days.steps);
    }

    public int fault(int what) {
        return what == 0 ? tape.fault : what == 1 ? tape.place : NONE;
    }

    public int told(int what) {
        Valley valley = world.valley;
        Standing standing = world.standing;
        switch (what) {
            case 0:
                return answer(standing.head);
            case 1:
                return answer(valley.span);
            case 2:
                return answer(valley.begins);
            case 3:
                return answer(valley.reaches);
            case 4:
                return answer(valley.owners);
            case 5:
                return answer(valley.fields);
            case 6:
                return answer(standing.span);
            case 7:
                return answer(standing.closed);
            case 8:
                return answer(standing.loans);
            default:
                return refuse(BAD_NUMBER);
        }
    }

    public int reach(int reach, int what) {
        if (!isReach(reach) || !isWithin(what, 0, REACH_CELLS - 1)) {
            return refuse(BAD_NUMBER);
        }
        return answerOrNone(world.valley.reach[reach][what]);
    }

    public int field(int field, int what) {
        if (!isField(field) || !isWithin(what, 0, FIELD_CELLS - 1)) {
            return refuse(BAD_NUMBER);
        }
        return answerOrNone(world.valley.field[field][what]);
    }

    public int below(int reach) {
        return isReach(reach) ? answer(world.valley.fieldsBelow(reach)) : refuse(BAD_NUMBER);
    }

    // ---- TURNS

    public int order(int k) {
        if (k < 0) {
            return refuse(BAD_NUMBER);
        }
        return k < world.valley.fields ? answer(world.standing.order[k]) : refuse(NONE_SUCH);
    }

    public int turn(int field, int what) {
        if (!isField(field) || !isWithin(what, 0, 1)) {
            return refuse(BAD_NUMBER);
        }
        Slots slots = laidSlots();
        return answer(what == 0 ? slots.turnFrom[field] : slots.turnMany[field]);
    }

    public boolean swap(int a, int b) {
        return settle(isCouple(a, b) ? world.changePlaces(a, b) : BAD_NUMBER);
    }

    public int lend(int from, int to, int minutes) {
        if (!isCouple(from, to) || !isWithin(minutes, 1, MOST_LENT)) {
            return refuse(BAD_NUMBER);
        }
        int why = world.makeLoan(from, to, minutes, sweep.slots);
        return why == FINE ? answer(world.standing.debt(to, from)) : refuse(why);
    }

    public int owed(int by, int to) {
        return isCouple(by, to) ? answer(world.standing.debt(by, to)) : refuse(BAD_NUMBER);
    }

    public int slots() {
        return answer(laidSlots().count);
    }

    public int slot(int k, int what) {
        if (!isWithin(what, 0, 2)) {
            return refuse(BAD_NUMBER);
        }
        Slots slots = laidSlots();
        if (!isWithin(k, 0, slots.count - 1)) {
            return refuse(NONE_SUCH);
        }
        return answer(what == 0 ? slots.field[k] : what == 1 ? slots.from[k] : slots.many[k]);
    }

    public int whose(int minute) {
        if (!isMinute(minute)) {
            return refuse(BAD_NUMBER);
        }
        Slots slots = laidSlots();
        for (int k = 0; k < slots.count; k++) {
            if (minute < slots.from[k] + slots.many[k]) {
                return answer(slots.field[k]);
            }
        }
        return refuse(NONE_SUCH);
    }

    public int minutes(int field, int what) {
        if (!isField(field) || !isWithin(what, 0, 1)) {
            return refuse(BAD_NUMBER);
        }
        Sweep now = sweptWorld();
        return answer(what == 0 ? now.slotMinutes[field] : now.openMinutes[field]);
    }

    private Slots laidSlots() {
        sweep.slots.lay(world);
        return sweep.slots;
    }

    private Sweep sweptWorld() {
        sweep.over(world);
        return sweep;
    }

    // ---- water

    public boolean close(int reach, boolean is) {
        if (!isReach(reach)) {
            return settle(BAD_NUMBER);
        }
        world.standing.setClosed(reach, is);
        return settle(FINE);
    }

    public boolean head(int litres) {
        if (!isWithin(litres, 0, MOST_HEAD)) {
            return settle(BAD_NUMBER);
        }
        world.standing.head = litres;
        return settle(FINE);
    }

    public int lets(int reach, int minute) {
        if (!isReach(reach) || !isMinute(minute)) {
            return refuse(BAD_NUMBER);
        }
        boolean isOpen = !world.standing.isClosed(reach) && !world.valley.isShut(reach, minute);
        return answer(isOpen ? 1 : 0);
    }

    public boolean rate(int field) {
        if (!isField(field)) {
            return settle(BAD_NUMBER);
        }
        return tellFraction(sweptWorld().rateOf(world.valley, field), world.valley.parts);
    }

    public boolean water(int field) {
        if (!isField(field)) {
            return settle(BAD_NUMBER);
        }
        return tellFraction(sweptWorld().gets(world.valley, field), world.valley.parts);
    }

    public boolean lost(int reach) {
        if (!isReach(reach)) {
            return settle(BAD_NUMBER);
        }
        return tellFraction(sweptWorld().losesAt(reach), world.valley.parts);
    }

    public boolean runsOut(int reach) {
        if (reach != NONE && !isReach(reach)) {
            return settle(BAD_NUMBER);
        }
        if (reach == NONE) {
            boolean isUsed = world.valley.fields > 0;
            return tellFraction(isUsed ? 0 : world.standing.head * world.valley.span, 1);
        }
        return tellFraction(sweptWorld().spillsAt(reach), world.valley.parts);
    }

    public boolean waterOf(int owner) {
        if (owner != NONE && !isOwner(owner)) {
            return settle(BAD_NUMBER);
        }
        Sweep now = sweptWorld();
        long sum = 0;
        for (int f = 0; f < world.valley.fields; f++) {
            if (world.valley.field[f][BY] == owner) {
                sum += now.gets(world.valley, f);
            }
        }
        return tellFraction(sum, world.valley.parts);
    }

    // ---- who is short

    public int lacking(int field) {
        if (!isField(field)) {
            return refuse(BAD_NUMBER);
        }
        int lack = sweptWorld().shortOf(world.valley, field);
        return lack == NONE ? refuse(CANNOT_BE) : answer(lack);
    }

    public int spare(int field) {
        return isField(field) ? answer(sweptWorld().spareOf(world.valley, field)) : refuse(BAD_NUMBER);
    }

    public int fewest() {
        Sweep now = sweptWorld();
        int lack = 0;
        int spare = 0;
        for (int f = 0; f < world.valley.fields; f++) {
            int of = now.shortOf(world.valley, f);
            if (of == NONE) {
                return refuse(CANNOT_BE);
            }
            lack += of;
            spare += now.spareOf(world.valley, f);
        }
        return spare >= lack ? answer(lack) : refuse(NONE_SUCH);
    }

    public int neediest() {
        Sweep now = sweptWorld();
        int most = 0;
        int best = NONE;
        for (int f = 0; f < world.valley.fields; f++) {
            int lack = now.shortOf(world.valley, f);
            if (lack == NONE) {
                return refuse(CANNOT_BE);
            }
            if (lack > most) {
                most = lack;
                best = f;
            }
        }
        return answerOrNone(best);
    }

    public int richest(boolean is) {
        Sweep now = sweptWorld();
        int best = NONE;
        for (int f = 0; f < world.valley.fields; f++) {
            int than = best == NONE ? 0 : now.compareWorth(world.valley, f, best);
            if (best == NONE || (is ? than > 0 : than < 0)) {
                best = f;
            }
        }
        return answerOrNone(best);
    }

    public int mending() {
        Sweep now = sweptWorld();
        long before = now.allWater(world.valley);
        long most = 0;
        int best = NONE;
        for (int r = 0; r < world.valley.reaches; r++) {
            now.flow(world.valley, world.standing.head, r);
            long more = now.allWater(world.valley) - before;
            if (more > most) {
                most = more;
                best = r;
            }
        }
        return tellBest(best, most);
    }

    /** The FRACTION is told only where there is one such: another STATUS changes nothing. */
    private int tellBest(int best, long gain) {
        if (best == NONE) {
            return refuse(NONE_SUCH);
        }
        tellFraction(gain, world.valley.parts);
        return answer(best);
    }

    public boolean off() {
        Valley valley = world.valley;
        if (valley.fields == 0) {
            return settle(NONE_SUCH);
        }
        Slots slots = laidSlots();
        int most = 0;
        for (int f = 0; f < valley.fields; f++) {
            int has = slots.turnMany[f] * valley.allShares;
            most = Math.max(most, Math.abs(has - valley.span * valley.field[f][SHARES]));
        }
        return tellFraction(most, valley.allShares);
    }

    public int driest() {
        if (world.valley.fields == 0) {
            return answer(world.valley.span);
        }
        Sweep now = sweptWorld();
        int most = 0;
        int run = 0;
        for (int k = 0; k < now.pieces; k++) {
            run = now.isWet(world.valley, k) ? 0 : run + now.pieceTo[k] - now.pieceFrom[k];
            most = Math.max(most, run);
        }
        return answer(most);
    }

    public int waits(int field, int minute) {
        if (!isField(field) || !isMinute(minute)) {
            return refuse(BAD_NUMBER);
        }
        Sweep now = sweptWorld();
        for (int k = 0; k < now.pieces; k++) {
            if (now.pieceField[k] == field && now.pieceTo[k] > minute && now.isWet(world.valley, k)) {
                return answer(Math.max(0, now.pieceFrom[k] - minute));
            }
        }
        return refuse(NONE_SUCH);
    }

    public int headFor(int field) {
        if (!isField(field)) {
            return refuse(BAD_NUMBER);
        }
        Sweep now = sweptWorld();
        int least = 0;
        int above = MOST_HEAD + 1;
        // RATE never falls as HEAD grows, so halving finds the least one.
        for (int round = 0; round < 20 && least < above; round++) {
            int middle = (least + above) / 2;
            now.flow(world.valley, middle, NONE);
            if (now.shortOf(world.valley, field) == 0) {
                above = middle;
            } else {
                least = middle + 1;
            }
        }
        return least <= MOST_HEAD ? answer(least) : refuse(NONE_SUCH);
    }

    public int shadow() {
        Sweep now = sweptWorld();
        long most = 0;
        int best = NONE;
        for (int r = 0; r < world.valley.reaches; r++) {
            long cost = now.waterIn(world.valley, world.valley.fieldsBelow(r));
            if (cost > most) {
                most = cost;
                best = r;
            }
        }
        return tellBest(best, most);
    }

    public int bestSwap(int what) {
        if (!isWithin(what, 0, 1)) {
            return refuse(BAD_NUMBER);
        }
        if (world.standing.loans > 0) {
            return refuse(CANNOT_BE);
        }
        int[] order = world.standing.order;
        long before = sweptWorld().allWater(world.valley);
        long most = 0;
        int best = NONE;
        for (int i = 0; i < world.valley.fields; i++) {
            for (int j = i + 1; j < world.valley.fields; j++) {
                long more = waterIfSwapped(order[i], order[j]) - before;
                if (more > most) {
                    most = more;
                    best = what == 0 ? order[i] : order[j];
                }
            }
        }
        return tellBest(best, most);
    }

    private long waterIfSwapped(int a, int b) {
        world.changePlaces(a, b);
        long sum = sweptWorld().allWater(world.valley);
        world.changePlaces(a, b);
        return sum;
    }

    public int debts() {
        int couples = 0;
        for (int a = 0; a < world.valley.fields; a++) {
            for (int b = 0; b < a; b++) {
                boolean isOwing = world.standing.debt(a, b) > 0 || world.standing.debt(b, a) > 0;
                couples += isOwing ? 1 : 0;
            }
        }
        return answer(couples);
    }

    public int balance(int owner) {
        if (!isOwner(owner)) {
            return refuse(BAD_NUMBER);
        }
        int sum = 0;
        for (int f = 0; f < world.valley.fields; f++) {
            if (world.valley.field[f][BY] == owner) {
                sum += world.standing.allDebtTo(f) - world.standing.allDebtBy(f);
            }
        }
        return answer(sum);
    }

    // ---- gauges

    public boolean mean(int tray, int many) {
        int why = isWithin(many, 1, MOST_NUMBERS) ? trays.whyNoGauge(tray, many, MOST_READING) : BAD_NUMBER;
        if (why != FINE) {
            return settle(why);
        }
        long sum = 0;
        int readings = 0;
        for (int k = 0; k < many; k++) {
            if (trays.rows[tray][k] != NONE) {
                sum += trays.rows[tray][k];
                readings++;
            }
        }
        return readings == 0 ? settle(NONE_SUCH) : tellFraction(sum, readings);
    }

    public int gaps(int tray, int many) {
        int why = isWithin(many, 1, MOST_NUMBERS) ? trays.whyNoGauge(tray, many, MOST_READING) : BAD_NUMBER;
        if (why != FINE) {
            return refuse(why);
        }
        int most = 0;
        int run = 0;
        for (int k = 0; k < many; k++) {
            run = trays.rows[tray][k] == NONE ? run + 1 : 0;
            most = Math.max(most, run);
        }
        return answer(most);
    }

    public int suspects(int tray) {
        Valley valley = world.valley;
        int why = trays.whyNoGauge(tray, valley.fields, MOST_HEAD);
        if (why != FINE) {
            return refuse(why);
        }
        Sweep now = sweptWorld();
        int withReading = 0;
        int withLess = 0;
        for (int f = 0; f < valley.fields; f++) {
            long reading = trays.rows[tray][f];
            if (reading != NONE) {
                withReading |= 1 << f;
                withLess |= reading < now.rateOf(valley, f) / Math.max(1, valley.parts) ? 1 << f : 0;
            }
        }
        int set = 0;
        for (int r = 0; r < valley.reaches; r++) {
            if (withLess != 0 && withLess == (valley.fieldsBelow(r) & withReading)) {
                set |= 1 << r;
            }
        }
        return answer(set);
    }

    // ---- SPANS

    public int pass() {
        int why = world.endSpan(sweep);
        return why == FINE ? answer(world.standing.span) : refuse(why);
    }

    public long account(int field) {
        if (!isField(field)) {
            return refuse(BAD_NUMBER);
        }
        settle(FINE);
        return world.standing.account[field];
    }

    public int live(int seed) {
        if (!isWithin(seed, 0, MOST_SEED)) {
            return refuse(BAD_NUMBER);
        }
        if (!world.days.isThere) {
            return refuse(NONE_SUCH);
        }
        life.run(world, sweep, seed);
        latestLife[0] = life.passed;
        latestLife[1] = life.missed;
        latestLife[2] = life.halved;
        latestLife[3] = life.isCut ? 1 : 0;
        hasLived = true;
        return answer(life.done);
    }

    public int lived(int what) {
        if (!isWithin(what, 0, 3)) {
            return refuse(BAD_NUMBER);
        }
        return hasLived ? answer(latestLife[what]) : refuse(NONE_SUCH);
    }

    public boolean odds(int field, int litres, int seed, int many) {
        if (!isField(field) || !isWithin(litres, 0, MOST_LITRES)
                || !isWithin(many, 1, MOST_ODDS) || !isWithin(seed, 0, MOST_SEED - many + 1)) {
            return settle(BAD_NUMBER);
        }
        if (!world.days.isThere) {
            return settle(NONE_SUCH);
        }
        kept.take(world.standing);
        int reached = 0;
        for (int k = 0; k < many; k++) {
            life.run(world, sweep, seed + k);
            reached += world.standing.account[field] >= litres ? 1 : 0;
            world.standing.take(kept);
        }
        return tellFraction(reached, many);
    }

    // ---- MARKS

    public int mark() {
        if (markCount >= MOST_MARKS) {
            return refuse(TOO_MANY);
        }
        if (marks[markCount] == null) {
            marks[markCount] = new World();
        }
        marks[markCount].take(world);
        markCount++;
        return answer(markCount);
    }

    public int back() {
        if (markCount < 1 || marks[markCount - 1] == null) {
            return refuse(NONE_SUCH);
        }
        markCount--;
        world.take(marks[markCount]);
        return answer(markCount);
    }

    /** Rows of numbers, held as long whatever their sort; a row of NONE numbers is MISSING. */
    private static final class Trays {
        final long[][] rows = new long[MOST_TRAYS][MOST_NUMBERS];
        final int[] sort = new int[MOST_TRAYS];
        private final int[] many = {NONE, NONE, NONE, NONE};

        static boolean isTray(int tray) {
            return tray >= 0 && tray < MOST_TRAYS;
        }

        boolean isMissing(int tray) {
            return many[tray] == NONE;
        }

        boolean holds(int tray, int place, int count) {
            return count <= many[tray] && place <= many[tray] - count;
        }

        void lay(int tray, int sortOfIt, int count) {
            sort[tray] = sortOfIt;
            many[tray] = count;
            Arrays.fill(rows[tray], 0L);
        }

        void put(int tray, int place, long v) {
            long cut = v;
            if (sort[tray] == 0) {
                cut = (byte) v;
            } else if (sort[tray] == 1) {
                cut = (short) v;
            } else if (sort[tray] == 2) {
                cut = (int) v;
            }
            rows[tray][place] = cut;
        }

        int whyNoPlace(int tray, int place) {
            if (!isTray(tray)) {
                return BAD_NUMBER;
            }
            if (isMissing(tray)) {
                return IS_MISSING;
            }
            return place >= 0 && place < many[tray] ? FINE : NO_PLACE;
        }

        int whyNoGauge(int tray, int count, int mostReading) {
            if (!isTray(tray)) {
                return BAD_NUMBER;
            }
            if (isMissing(tray)) {
                return IS_MISSING;
            }
            if (count > many[tray]) {
                return NO_PLACE;
            }
            for (int k = 0; k < count; k++) {
                if (rows[tray][k] < NONE || rows[tray][k] > mostReading) {
                    return BAD_IN_TRAY;
                }
            }
            return FINE;
        }
    }

    /** The bytes that are fed, read TOKEN by TOKEN, and the first FAULT that a reader finds in them. */
    private static final class Tape {
        static final int TEXT_END = 0;
        static final int WORD = 1;
        static final int NUMBER = 2;
        static final int SIGN = 3;
        static final int NO_TOKEN = 4;

        private final byte[] bytes = new byte[MOST_BYTES];
        private final long[] keywords = new long[MOST_KEYWORDS];
        private int length = 0;
        private int at = 0;
        private int start = 0;
        private int number = 0;
        int many = 0;
        int kind = TEXT_END;
        int sign = 0;
        /** Which keyword a WORD is, or NONE. */
        int key = NONE;
        /** The letters of a WORD in one number, five bits each; 0 if they are too many for a NAME. */
        long name = 0;
        int fault = NONE;
        int place = NONE;

        Tape() {
            int count = 0;
            long code = 0;
            for (int k = 0; k < KEYWORDS.length(); k++) {
                char c = KEYWORDS.charAt(k);
                if (c != ' ') {
                    code = code * 32 + (c - 'a' + 1);
                } else if (count < MOST_KEYWORDS) {
                    keywords[count] = code;
                    count++;
                    code = 0;
                }
            }
        }

        boolean hasRoom(int more) {
            return many + more <= MOST_BYTES;
        }

        int add(int a, int b, int c, int d, int e) {
            addInt(a);
            addInt(b);
            addInt(c);
            addInt(d);
            addInt(e);
            return many;
        }

        private void addInt(int four) {
            for (int shift = 24; shift >= 0 && many < MOST_BYTES; shift -= 8) {
                bytes[many] = (byte) (four >> shift);
                many++;
            }
        }

        void begin(int n) {
            length = Math.min(n, many);
            at = 0;
            fault = 0;
            place = NONE;
            step();
        }

        void step() {
            while (at < length && (bytes[at] == 10 || bytes[at] == 32)) {
                at++;
            }
            start = at;
            key = NONE;
            name = 0;
            if (at >= length) {
                kind = TEXT_END;
            } else if (bytes[at] >= 'a' && bytes[at] <= 'z') {
                at = runEnd('a', 'z');
                kind = WORD;
                spell();
            } else if (bytes[at] >= '0' && bytes[at] <= '9') {
                at = runEnd('0', '9');
                kind = at - start <= MOST_DIGITS ? NUMBER : NO_TOKEN;
                number = kind == NUMBER ? value() : 0;
            } else {
                sign = bytes[at];
                at++;
                kind = sign == ';' || sign == '<' || sign == '>' || sign == '=' ? SIGN : NO_TOKEN;
            }
        }

        private int runEnd(char least, char most) {
            int end = start;
            while (end < length && bytes[end] >= least && bytes[end] <= most) {
                end++;
            }
            return end;
        }

        private void spell() {
            for (int k = start; k < at && at - start <= MOST_LETTERS; k++) {
                name = name * 32 + (bytes[k] - 'a' + 1);
            }
            for (int k = 0; k < MOST_KEYWORDS && name != 0; k++) {
                key = keywords[k] == name ? k : key;
            }
        }

        private int value() {
            int sum = 0;
            for (int k = start; k < at; k++) {
                sum = sum * 10 + (bytes[k] - '0');
            }
            return sum;
        }

        /** A TOKEN that is none is so whatever else is wrong with it: of one TOKEN the least kind counts. */
        boolean blame(int why) {
            if (fault == 0) {
                fault = kind == NO_TOKEN ? FAULT_TOKEN : why;
                place = start;
            }
            return false;
        }

        boolean isAtEnd() {
            return kind == TEXT_END;
        }

        boolean isAt(int keyword) {
            return kind == WORD && key == keyword;
        }

        boolean skip(int keyword) {
            if (!isAt(keyword)) {
                return blame(FAULT_STAND);
            }
            step();
            return true;
        }

        boolean skipSemicolon() {
            if (kind != SIGN || sign != ';') {
                return blame(FAULT_STAND);
            }
            step();
            return true;
        }

        /** The NUMBER that stands here, or NONE with the blame. */
        int takeNumber(int least, int most) {
            if (kind != NUMBER) {
                blame(FAULT_STAND);
                return NONE;
            }
            if (number < least || number > most) {
                blame(FAULT_NUMBER);
                return NONE;
            }
            int value = number;
            step();
            return value;
        }

        boolean isAtName() {
            return kind == WORD && key == NONE && name != 0;
        }

        /** The place among the names of the NAME that stands here, or NONE with the blame. */
        int takeKnown(long[] names, int count) {
            if (!isAtName()) {
                blame(FAULT_STAND);
                return NONE;
            }
            int found = Valley.find(names, count, name);
            if (found == NONE) {
                blame(FAULT_NAME);
                return NONE;
            }
            step();
            return found;
        }
    }

    /** What the text of a VALLEY says. */
    private static final class Valley {
        int head = 100;
        int span = DAY;
        int begins = 0;
        int reaches = 0;
        int owners = 0;
        int fields = 0;
        int allShares = 0;
        /** All water is counted in so manieth parts of a litre: no chain of losses has a rest by these. */
        long parts = 1;
        final int[][] reach = new int[MOST_REACHES][REACH_CELLS];
        final int[][] field = new int[MOST_FIELDS][FIELD_CELLS];
        final long[] reachNames = new long[MOST_REACHES];
        final long[] ownerNames = new long[MOST_OWNERS];
        final long[] fieldNames = new long[MOST_FIELDS];

        static int find(long[] names, int count, long name) {
            for (int k = 0; k < count && k < names.length; k++) {
                if (names[k] == name) {
                    return k;
                }
            }
            return NONE;
        }

        boolean isTaken(long name) {
            return find(reachNames, reaches, name) != NONE || find(ownerNames, owners, name) != NONE
                    || find(fieldNames, fields, name) != NONE;
        }

        /** Head and span are NONE till they are told, so that a second one is seen. */
        void clear() {
            head = NONE;
            span = NONE;
            begins = 0;
            reaches = 0;
            owners = 0;
            fields = 0;
        }

        void complete() {
            head = head == NONE ? 100 : head;
            span = span == NONE ? DAY : span;
            parts = 1;
            for (int r = 0; r < reaches; r++) {
                parts *= reach[r][IN];
            }
            allShares = 0;
            for (int f = 0; f < fields; f++) {
                allShares += field[f][SHARES];
            }
        }

        void take(Valley from) {
            head = from.head;
            span = from.span;
            begins = from.begins;
            reaches = from.reaches;
            owners = from.owners;
            fields = from.fields;
            allShares = from.allShares;
            parts = from.parts;
            for (int r = 0; r < MOST_REACHES; r++) {
                System.arraycopy(from.reach[r], 0, reach[r], 0, REACH_CELLS);
            }
            for (int f = 0; f < MOST_FIELDS; f++) {
                System.arraycopy(from.field[f], 0, field[f], 0, FIELD_CELLS);
            }
            System.arraycopy(from.reachNames, 0, reachNames, 0, MOST_REACHES);
            System.arraycopy(from.ownerNames, 0, ownerNames, 0, MOST_OWNERS);
            System.arraycopy(from.fieldNames, 0, fieldNames, 0, MOST_FIELDS);
        }

        /** The minute in which a TURN begins that has so many SHARES ahead of it. */
        int turnEdge(int sharesAhead) {
            return allShares < 1 ? 0 : span * sharesAhead / allShares;
        }

        boolean isShut(int r, int minute) {
            int ofDay = (begins + minute) % DAY;
            return reach[r][SHUT_FROM] != NONE && ofDay >= reach[r][SHUT_FROM] && ofDay < reach[r][SHUT_TO];
        }

        /** The first minute behind one in which a REACH begins or ends to be SHUT, or the bound if that is ahead. */
        int nextChange(int minute, int bound) {
            int next = bound;
            for (int r = 0; r < reaches; r++) {
                if (reach[r][SHUT_FROM] != NONE) {
                    int from = Math.floorMod(reach[r][SHUT_FROM] - begins, DAY);
                    int to = Math.floorMod(reach[r][SHUT_TO] - begins, DAY);
                    next = from > minute ? Math.min(next, from) : next;
                    next = to > minute ? Math.min(next, to) : next;
                }
            }
            return next;
        }

        int fieldsBelow(int top) {
            int wet = 1 << top;
            // A REACH is told behind the one it is OF, so one way along them is enough.
            for (int r = top + 1; r < reaches; r++) {
                if (reach[r][OF] != NONE && (wet >> reach[r][OF] & 1) == 1) {
                    wet |= 1 << r;
                }
            }
            int set = 0;
            for (int f = 0; f < fields; f++) {
                set |= (wet >> field[f][ON] & 1) << f;
            }
            return set;
        }
    }

    /** Reads the text of a VALLEY; each method answers false once there is a FAULT. */
    private static final class ValleyReader {

        static boolean takes(Tape tape, int n, Valley into) {
            into.clear();
            tape.begin(n);
            for (int part = 0; part < MOST_BYTES && !tape.isAtEnd(); part++) {
                if (!readPart(tape, into)) {
                    return false;
                }
            }
            into.complete();
            return true;
        }

        private static boolean readPart(Tape tape, Valley into) {
            if (tape.isAt(K_HEAD)) {
                return readHead(tape, into);
            }
            if (tape.isAt(K_SPAN)) {
                return readSpan(tape, into);
            }
            if (tape.isAt(K_REACH)) {
                return readReach(tape, into);
            }
            if (tape.isAt(K_OWNER)) {
                return readOwner(tape, into);
            }
            return tape.isAt(K_FIELD) ? readField(tape, into) : tape.blame(FAULT_STAND);
        }

        private static boolean readHead(Tape tape, Valley into) {
            if (into.head != NONE) {
                return tape.blame(FAULT_AGAIN);
            }
            tape.step();
            into.head = tape.takeNumber(0, MOST_HEAD);
            return into.head != NONE && tape.skipSemicolon();
        }

        private static boolean readSpan(Tape tape, Valley into) {
            if (into.span != NONE) {
                return tape.blame(FAULT_AGAIN);
            }
            tape.step();
            into.span = tape.takeNumber(1, DAY);
            if (into.span == NONE || !tape.skip(K_BEGINS)) {
                return false;
            }
            into.begins = tape.takeNumber(0, DAY - 1);
            return into.begins != NONE && tape.skipSemicolon();
        }

        /** The new NAME that stands here, or 0 with the blame. */
        private static long takeNew(Tape tape, Valley into) {
            long name = tape.name;
            if (!tape.isAtName()) {
                tape.blame(FAULT_STAND);
                return 0;
            }
            if (into.isTaken(name)) {
                tape.blame(FAULT_NAME);
                return 0;
            }
            tape.step();
            return name;
        }

        private static boolean readOwner(Tape tape, Valley into) {
            if (into.owners >= MOST_OWNERS) {
                return tape.blame(FAULT_TOO_MANY);
            }
            tape.step();
            long name = takeNew(tape, into);
            if (name == 0 || !tape.skipSemicolon()) {
                return false;
            }
            into.ownerNames[into.owners] = name;
            into.owners++;
            return true;
        }

        private static boolean readReach(Tape tape, Valley into) {
            if (into.reaches >= MOST_REACHES) {
                return tape.blame(FAULT_TOO_MANY);
            }
            tape.step();
            long name = takeNew(tape, into);
            int[] cells = into.reach[into.reaches];
            Arrays.fill(cells, NONE);
            if (name == 0 || !readAbove(tape, into, cells) || !readLoss(tape, cells)
                    || !readCarries(tape, cells) || !readShut(tape, cells) || !tape.skipSemicolon()) {
                return false;
            }
            into.reachNames[into.reaches] = name;
            into.reaches++;
            return true;
        }

        private static boolean readAbove(Tape tape, Valley into, int[] cells) {
            if (!tape.isAt(K_OF)) {
                return true;
            }
            tape.step();
            cells[OF] = tape.takeKnown(into.reachNames, into.reaches);
            return cells[OF] != NONE;
        }

        private static boolean readLoss(Tape tape, int[] cells) {
            if (!tape.skip(K_LOSES)) {
                return false;
            }
            cells[LOSES] = tape.takeNumber(0, 11);
            if (cells[LOSES] == NONE || !tape.skip(K_IN)) {
                return false;
            }
            cells[IN] = tape.takeNumber(cells[LOSES] + 1, 12);
            return cells[IN] != NONE;
        }

        private static boolean readCarries(Tape tape, int[] cells) {
            if (!tape.isAt(K_CARRIES)) {
                return true;
            }
            tape.step();
            cells[CARRIES] = tape.takeNumber(1, 999);
            return cells[CARRIES] != NONE;
        }

        private static boolean readShut(Tape tape, int[] cells) {
            if (!tape.isAt(K_SHUT)) {
                return true;
            }
            tape.step();
            cells[SHUT_FROM] = tape.takeNumber(0, DAY - 1);
            if (cells[SHUT_FROM] == NONE || !tape.skip(K_TO)) {
                return false;
            }
            cells[SHUT_TO] = tape.takeNumber(cells[SHUT_FROM] + 1, DAY);
            return cells[SHUT_TO] != NONE;
        }

        private static boolean readField(Tape tape, Valley into) {
            if (into.fields >= MOST_FIELDS) {
                return tape.blame(FAULT_TOO_MANY);
            }
            tape.step();
            long name = takeNew(tape, into);
            int[] cells = into.field[into.fields];
            Arrays.fill(cells, NONE);
            if (name == 0 || !readOn(tape, into, cells) || !readClaims(tape, cells)
                    || !readBy(tape, into, cells) || !tape.skipSemicolon()) {
                return false;
            }
            into.fieldNames[into.fields] = name;
            into.fields++;
            return true;
        }

        private static boolean readOn(Tape tape, Valley into, int[] cells) {
            if (!tape.skip(K_ON)) {
                return false;
            }
            cells[ON] = tape.takeKnown(into.reachNames, into.reaches);
            return cells[ON] != NONE;
        }

        private static boolean readClaims(Tape tape, int[] cells) {
            if (!tape.skip(K_SHARES)) {
                return false;
            }
            cells[SHARES] = tape.takeNumber(1, 99);
            if (cells[SHARES] == NONE || !tape.skip(K_NEEDS)) {
                return false;
            }
            cells[NEEDS] = tape.takeNumber(0, 9999);
            return cells[NEEDS] != NONE;
        }

        private static boolean readBy(Tape tape, Valley into, int[] cells) {
            if (!tape.isAt(K_BY)) {
                return true;
            }
            tape.step();
            cells[BY] = tape.takeKnown(into.ownerNames, into.owners);
            return cells[BY] != NONE;
        }
    }

    /** The DAYS as lines: each STEP is one, and so is each end. */
    private static final class Days {
        boolean isThere = false;
        int steps = 0;
        int lines = 0;
        final int[] word = new int[MOST_LINES];
        final int[] test = new int[MOST_LINES];
        final int[] first = new int[MOST_LINES];
        final int[] second = new int[MOST_LINES];
        final int[] sign = new int[MOST_LINES];
        final int[] number = new int[MOST_LINES];
        /** Of a when or loop the line of its end, of an end the line of what it ends. */
        final int[] partner = new int[MOST_LINES];

        void clear() {
            isThere = false;
            steps = 0;
            lines = 0;
        }

        void take(Days from) {
            isThere = from.isThere;
            steps = from.steps;
            lines = from.lines;
            System.arraycopy(from.word, 0, word, 0, MOST_LINES);
            System.arraycopy(from.test, 0, test, 0, MOST_LINES);
            System.arraycopy(from.first, 0, first, 0, MOST_LINES);
            System.arraycopy(from.second, 0, second, 0, MOST_LINES);
            System.arraycopy(from.sign, 0, sign, 0, MOST_LINES);
            System.arraycopy(from.number, 0, number, 0, MOST_LINES);
            System.arraycopy(from.partner, 0, partner, 0, MOST_LINES);
        }

        int addLine(int keyword) {
            int line = Math.min(lines, MOST_LINES - 1);
            word[line] = keyword;
            partner[line] = NONE;
            lines = line + 1;
            return line;
        }

        /** The latest when or loop that has no end yet, or NONE. */
        int innermost() {
            for (int line = lines - 1; line >= 0; line--) {
                if (isBlock(word[line]) && partner[line] == NONE) {
                    return line;
                }
            }
            return NONE;
        }

        int openBlocks() {
            int open = 0;
            for (int line = 0; line < lines; line++) {
                open += isBlock(word[line]) && partner[line] == NONE ? 1 : 0;
            }
            return open;
        }

        static boolean isBlock(int keyword) {
            return keyword == K_WHEN || keyword == K_LOOP;
        }
    }

    /** Reads the text of the DAYS; each method answers false once there is a FAULT. */
    private static final class DaysReader {

        static boolean takes(Tape tape, int n, Valley valley, Days into) {
            into.clear();
            tape.begin(n);
            for (int line = 0; line <= MOST_LINES && !tape.isAtEnd(); line++) {
                boolean isRead = tape.isAt(K_END) ? readEnd(tape, into) : readStep(tape, valley, into);
                if (!isRead) {
                    return false;
                }
            }
            into.isThere = into.innermost() == NONE || tape.blame(FAULT_STAND);
            return into.isThere;
        }

        private static boolean readEnd(Tape tape, Days into) {
            int begun = into.innermost();
            if (begun == NONE) {
                return tape.blame(FAULT_STAND);
            }
            tape.step();
            int line = into.addLine(K_END);
            into.partner[line] = begun;
            into.partner[begun] = line;
            return tape.skipSemicolon();
        }

        private static boolean readStep(Tape tape, Valley valley, Days into) {
            int keyword = tape.key;
            if (!isStepWord(keyword)) {
                return tape.blame(FAULT_STAND);
            }
            if (into.steps >= MOST_STEPS) {
                return tape.blame(FAULT_TOO_MANY);
            }
            if (Days.isBlock(keyword) && into.openBlocks() >= MOST_NESTED) {
                return tape.blame(FAULT_TOO_DEEP);
            }
            tape.step();
            into.steps++;
            int line = into.addLine(keyword);
            boolean isRead = true;
            if (keyword == K_SHUT || keyword == K_OPEN) {
                isRead = readReachName(tape, valley, into, line);
            } else if (keyword == K_WHEN) {
                isRead = readTest(tape, valley, into, line);
            } else if (keyword == K_SWAP || keyword == K_PAY || keyword == K_LEND) {
                isRead = readTwoFields(tape, valley, into, line);
            }
            if (isRead && mostOf(keyword) != NONE) {
                isRead = readNumber(tape, into, line, leastOf(keyword), mostOf(keyword));
            }
            return isRead && tape.skipSemicolon();
        }

        private static boolean isStepWord(int keyword) {
            return keyword == K_SHUT || keyword >= K_OPEN && keyword <= K_WHEN
                    || keyword == K_LOOP || keyword == K_STOP;
        }

        private static int leastOf(int keyword) {
            return keyword == K_LEND || keyword == K_LOOP ? 1 : 0;
        }

        /** The greatest NUMBER that may stand last in a STEP, or NONE if none stands there. */
        private static int mostOf(int keyword) {
            switch (keyword) {
                case K_LEND:
                    return MOST_LENT;
                case K_FLOW:
                    return MOST_HEAD;
                case K_DRY:
                    return 16;
                case K_LOOP:
                    return 99;
                default:
                    return NONE;
            }
        }

        private static boolean readReachName(Tape tape, Valley valley, Days into, int line) {
            into.first[line] = tape.takeKnown(valley.reachNames, valley.reaches);
            return into.first[line] != NONE;
        }

        private static boolean readTwoFields(Tape tape, Valley valley, Days into, int line) {
            into.first[line] = tape.takeKnown(valley.fieldNames, valley.fields);
            if (into.first[line] == NONE) {
                return false;
            }
            into.second[line] = tape.takeKnown(valley.fieldNames, valley.fields);
            return into.second[line] != NONE;
        }

        private static boolean readNumber(Tape tape, Days into, int line, int least, int most) {
            into.number[line] = tape.takeNumber(least, most);
            return into.number[line] != NONE;
        }

        private static boolean readTest(Tape tape, Valley valley, Days into, int line) {
            int test = tape.key;
            if (test != K_SHUT && test != K_OWES && test != K_RICH) {
                return tape.blame(FAULT_STAND);
            }
            into.test[line] = test;
            tape.step();
            if (test == K_SHUT) {
                return readReachName(tape, valley, into, line);
            }
            into.first[line] = tape.takeKnown(valley.fieldNames, valley.fields);
            return into.first[line] != NONE && readSign(tape, into, line)
                    && readNumber(tape, into, line, 0, test == K_OWES ? 999 : 9999);
        }

        private static boolean readSign(Tape tape, Days into, int line) {
            if (tape.kind != Tape.SIGN || tape.sign == ';') {
                return tape.blame(FAULT_STAND);
            }
            into.sign[line] = tape.sign;
            tape.step();
            return true;
        }
    }

    /** What changes in a VALLEY from call to call. */
    private static final class Standing {
        int head = 100;
        int span = 0;
        int closed = 0;
        int loans = 0;
        final int[] order = new int[MOST_FIELDS];
        final int[] lender = new int[MOST_LOANS];
        final int[] borrower = new int[MOST_LOANS];
        final int[] lent = new int[MOST_LOANS];
        private final int[] owed = new int[MOST_FIELDS * MOST_FIELDS];
        final long[] account = new long[MOST_FIELDS];

        void take(Standing from) {
            head = from.head;
            span = from.span;
            closed = from.closed;
            loans = from.loans;
            System.arraycopy(from.order, 0, order, 0, MOST_FIELDS);
            System.arraycopy(from.lender, 0, lender, 0, MOST_LOANS);
            System.arraycopy(from.borrower, 0, borrower, 0, MOST_LOANS);
            System.arraycopy(from.lent, 0, lent, 0, MOST_LOANS);
            System.arraycopy(from.owed, 0, owed, 0, owed.length);
            System.arraycopy(from.account, 0, account, 0, MOST_FIELDS);
        }

        void clear() {
            span = 0;
            closed = 0;
            loans = 0;
            Arrays.fill(owed, 0);
            Arrays.fill(account, 0L);
        }

        boolean isClosed(int reach) {
            return (closed >> reach & 1) == 1;
        }

        void setClosed(int reach, boolean is) {
            closed = is ? closed | 1 << reach : closed & ~(1 << reach);
        }

        int debt(int by, int to) {
            return owed[by * MOST_FIELDS + to];
        }

        int allDebtBy(int by) {
            int sum = 0;
            for (int to = 0; to < MOST_FIELDS; to++) {
                sum += debt(by, to);
            }
            return sum;
        }

        int allDebtTo(int to) {
            int sum = 0;
            for (int by = 0; by < MOST_FIELDS; by++) {
                sum += debt(by, to);
            }
            return sum;
        }

        void addLoan(int from, int to, int minutes) {
            lender[loans] = from;
            borrower[loans] = to;
            lent[loans] = minutes;
            loans++;
            int paid = Math.min(minutes, debt(from, to));
            owed[from * MOST_FIELDS + to] -= paid;
            owed[to * MOST_FIELDS + from] += minutes - paid;
        }
    }

    /** All that a MARK keeps. */
    private static final class World {
        Valley valley = new Valley();
        Days days = new Days();
        final Standing standing = new Standing();

        void take(World from) {
            valley.take(from.valley);
            days.take(from.days);
            standing.take(from.standing);
        }

        /** A VALLEY is new here. */
        void begin() {
            days.clear();
            standing.clear();
            standing.head = valley.head;
            placeBelow(this, NONE, 0, 0);
        }

        /** Puts the FIELDS below a REACH (NONE: the head) in the ORDER from a place on; answers the place behind them. */
        private static int placeBelow(World world, int reach, int place, int depth) {
            Valley valley = world.valley;
            int next = place;
            for (int f = 0; f < valley.fields; f++) {
                if (valley.field[f][ON] == reach && next < MOST_FIELDS) {
                    world.standing.order[next] = f;
                    next++;
                }
            }
            for (int r = 0; r < valley.reaches && depth <= MOST_REACHES; r++) {
                if (valley.reach[r][OF] == reach) {
                    next = placeBelow(world, r, next, depth + 1);
                }
            }
            return next;
        }

        int changePlaces(int a, int b) {
            if (standing.loans > 0) {
                return CANNOT_BE;
            }
            for (int k = 0; k < valley.fields; k++) {
                int f = standing.order[k];
                standing.order[k] = f == a ? b : f == b ? a : f;
            }
            return FINE;
        }

        int makeLoan(int from, int to, int minutes, Slots slots) {
            if (standing.loans >= MOST_LOANS) {
                return TOO_MANY;
            }
            slots.lay(this);
            if (slots.left[from] < minutes) {
                return CANNOT_BE;
            }
            standing.addLoan(from, to, minutes);
            return FINE;
        }

        int endSpan(Sweep sweep) {
            if (standing.span >= MOST_SPANS) {
                return TOO_MANY;
            }
            sweep.over(this);
            for (int f = 0; f < valley.fields; f++) {
                standing.account[f] += sweep.gets(valley, f) / Math.max(1, valley.parts);
            }
            standing.loans = 0;
            standing.span++;
            return FINE;
        }
    }

    /** The TURNS of a SPAN, and the SLOTS that LOANS make of them. */
    private static final class Slots {
        final int[] turnFrom = new int[MOST_FIELDS];
        final int[] turnMany = new int[MOST_FIELDS];
        /** How many minutes of its own TURN a FIELD has not lent. */
        final int[] left = new int[MOST_FIELDS];
        int count = 0;
        final int[] field = new int[MOST_SLOTS];
        final int[] from = new int[MOST_SLOTS];
        final int[] many = new int[MOST_SLOTS];

        void lay(World world) {
            Valley valley = world.valley;
            count = 0;
            int ahead = 0;
            for (int k = 0; k < valley.fields; k++) {
                int f = world.standing.order[k];
                turnFrom[f] = valley.turnEdge(ahead);
                ahead += valley.field[f][SHARES];
                turnMany[f] = valley.turnEdge(ahead) - turnFrom[f];
                layTurn(world.standing, f);
            }
        }

        /** Each LOAN takes the end of what is left, so the latest one stands first behind it. */
        private void layTurn(Standing standing, int f) {
            left[f] = turnMany[f];
            for (int loan = 0; loan < standing.loans; loan++) {
                left[f] -= standing.lender[loan] == f ? standing.lent[loan] : 0;
            }
            add(f, turnFrom[f], left[f]);
            int at = turnFrom[f] + left[f];
            for (int loan = standing.loans - 1; loan >= 0; loan--) {
                if (standing.lender[loan] == f) {
                    add(standing.borrower[loan], at, standing.lent[loan]);
                    at += standing.lent[loan];
                }
            }
        }

        private void add(int f, int at, int minutes) {
            if (minutes > 0 && count < MOST_SLOTS) {
                field[count] = f;
                from[count] = at;
                many[count] = minutes;
                count++;
            }
        }
    }

    /** One way along a SPAN, in pieces in which nothing changes; all water in parts of the VALLEY. */
    private static final class Sweep {
        private static final int MOST_PIECES = MOST_SLOTS + 2 * MOST_REACHES;

        final Slots slots = new Slots();
        private final long[] comes = new long[MOST_REACHES];
        private final long[] carried = new long[MOST_REACHES];
        private final long[] leaves = new long[MOST_REACHES];
        /** In how many minutes water goes through a REACH, and in how many it comes but is not let through. */
        private final int[] through = new int[MOST_REACHES];
        private final int[] stopped = new int[MOST_REACHES];
        final int[] slotMinutes = new int[MOST_FIELDS];
        final int[] openMinutes = new int[MOST_FIELDS];
        int pieces = 0;
        final int[] pieceFrom = new int[MOST_PIECES];
        final int[] pieceTo = new int[MOST_PIECES];
        final int[] pieceField = new int[MOST_PIECES];
        private final boolean[] pieceOpen = new boolean[MOST_PIECES];

        void over(World world) {
            slots.lay(world);
            flow(world.valley, world.standing.head, NONE);
            Arrays.fill(through, 0);
            Arrays.fill(stopped, 0);
            Arrays.fill(slotMinutes, 0);
            Arrays.fill(openMinutes, 0);
            pieces = 0;
            for (int k = 0; k < slots.count; k++) {
                cutSlot(world, k);
            }
        }

        /** Litres a minute at each REACH if all let through; one REACH may be mended: it loses nothing. */
        void flow(Valley valley, int head, int mended) {
            for (int r = 0; r < valley.reaches; r++) {
                int[] cells = valley.reach[r];
                comes[r] = cells[OF] == NONE ? head * valley.parts : leaves[cells[OF]];
                carried[r] = cells[CARRIES] == NONE ? comes[r] : Math.min(comes[r], cells[CARRIES] * valley.parts);
                long loss = carried[r] / Math.max(1, cells[IN]) * cells[LOSES];
                leaves[r] = r == mended ? carried[r] : carried[r] - loss;
            }
        }

        private void cutSlot(World world, int k) {
            int end = slots.from[k] + slots.many[k];
            int at = slots.from[k];
            while (at < end && pieces < MOST_PIECES) {
                int next = world.valley.nextChange(at, end);
                int open = openAt(world, at);
                int f = slots.field[k];
                pieceFrom[pieces] = at;
                pieceTo[pieces] = next;
                pieceField[pieces] = f;
                pieceOpen[pieces] = (open >> world.valley.field[f][ON] & 1) == 1;
                pieces++;
                count(world.valley, f, open, next - at);
                at = next;
            }
        }

        /** The set of REACHES to which all let through, these too. */
        private int openAt(World world, int minute) {
            Valley valley = world.valley;
            int open = 0;
            for (int r = 0; r < valley.reaches; r++) {
                int above = valley.reach[r][OF];
                boolean isReached = above == NONE || (open >> above & 1) == 1;
                if (isReached && !world.standing.isClosed(r) && !valley.isShut(r, minute)) {
                    open |= 1 << r;
                }
            }
            return open;
        }

        private void count(Valley valley, int f, int open, int minutes) {
            int r = valley.field[f][ON];
            slotMinutes[f] += minutes;
            openMinutes[f] += (open >> r & 1) == 1 ? minutes : 0;
            for (int up = 0; up < MOST_REACHES && r != NONE; up++) {
                int above = valley.reach[r][OF];
                if ((open >> r & 1) == 1) {
                    through[r] += minutes;
                } else if (above == NONE || (open >> above & 1) == 1) {
                    stopped[r] += minutes;
                }
                r = above;
            }
        }

        long rateOf(Valley valley, int f) {
            return leaves[valley.field[f][ON]];
        }

        long gets(Valley valley, int f) {
            return rateOf(valley, f) * openMinutes[f];
        }

        long waterIn(Valley valley, int fields) {
            long sum = 0;
            for (int f = 0; f < valley.fields; f++) {
                sum += (fields >> f & 1) == 1 ? gets(valley, f) : 0;
            }
            return sum;
        }

        long allWater(Valley valley) {
            return waterIn(valley, -1);
        }

        long losesAt(int r) {
            return (carried[r] - leaves[r]) * through[r];
        }

        long spillsAt(int r) {
            return (comes[r] - carried[r]) * through[r] + comes[r] * stopped[r];
        }

        boolean isWet(Valley valley, int piece) {
            return pieceOpen[piece] && rateOf(valley, pieceField[piece]) > 0;
        }

        /** Minutes that a FIELD is SHORT of, or NONE if no minutes would do. */
        int shortOf(Valley valley, int f) {
            long lack = valley.field[f][NEEDS] * valley.parts - gets(valley, f);
            long rate = rateOf(valley, f);
            if (lack <= 0) {
                return 0;
            }
            return rate < 1 ? NONE : (int) Math.min(MOST_SHORT, (lack + rate - 1) / rate);
        }

        int spareOf(Valley valley, int f) {
            if (shortOf(valley, f) != 0) {
                return 0;
            }
            long rate = Math.max(1, rateOf(valley, f));
            long fewest = (valley.field[f][NEEDS] * valley.parts + rate - 1) / rate;
            return (int) (slotMinutes[f] - fewest);
        }

        /** Both sides times both SHARES: no rest, and the greatest WATER by 99 is still a long. */
        int compareWorth(Valley valley, int a, int b) {
            return Long.compare(gets(valley, a) * valley.field[b][SHARES], gets(valley, b) * valley.field[a][SHARES]);
        }
    }

    /** Does the STEPS of the DAYS, one seed's. */
    private static final class Life {
        /** Far above 300 STEPS with a loop of 99 empty rounds each. */
        private static final int MOST_ROUNDS = 100000;

        int done = 0;
        int passed = 0;
        int missed = 0;
        int halved = 0;
        boolean isCut = false;
        private int drawn = 0;
        private final int[] roundsLeft = new int[MOST_LINES];

        void run(World world, Sweep sweep, int seed) {
            done = 0;
            missed = 0;
            halved = 0;
            isCut = false;
            drawn = seed;
            Days days = world.days;
            int spanAhead = world.standing.span;
            int line = 0;
            for (int round = 0; round < MOST_ROUNDS && line < days.lines && !isCut; round++) {
                if (days.word[line] == K_END) {
                    line = behindEnd(days, line);
                } else if (done >= MOST_DONE) {
                    isCut = true;
                } else {
                    done++;
                    missed += act(world, sweep, line) == FINE ? 0 : 1;
                    line = behindStep(world, line);
                }
            }
            passed = world.standing.span - spanAhead;
        }

        private int behindEnd(Days days, int line) {
            int begun = days.partner[line];
            if (begun == NONE || days.word[begun] != K_LOOP) {
                return line + 1;
            }
            roundsLeft[begun]--;
            return roundsLeft[begun] > 0 ? begun + 1 : line + 1;
        }

        private int behindStep(World world, int line) {
            Days days = world.days;
            switch (days.word[line]) {
                case K_STOP:
                    return days.lines;
                case K_WHEN:
                    return isSo(world, line) ? line + 1 : days.partner[line] + 1;
                case K_LOOP:
                    roundsLeft[line] = days.number[line];
                    return line + 1;
                default:
                    return line + 1;
            }
        }

        private static boolean isSo(World world, int line) {
            Days days = world.days;
            int who = days.first[line];
            if (days.test[line] == K_SHUT) {
                return world.standing.isClosed(who);
            }
            boolean isOfDebts = days.test[line] == K_OWES;
            long value = isOfDebts ? world.standing.allDebtBy(who) : world.standing.account[who];
            long than = days.number[line];
            return days.sign[line] == '<' ? value < than : days.sign[line] == '>' ? value > than : value == than;
        }

        /** What a STEP changes (when, loop, stop: nothing); answers FINE, or why it can't be. */
        private int act(World world, Sweep sweep, int line) {
            Days days = world.days;
            int first = days.first[line];
            int second = days.second[line];
            switch (days.word[line]) {
                case K_SHUT:
                case K_OPEN:
                    world.standing.setClosed(first, days.word[line] == K_SHUT);
                    return FINE;
                case K_SWAP:
                    return first == second ? BAD_NUMBER : world.changePlaces(first, second);
                case K_LEND:
                    return first == second ? BAD_NUMBER
                            : world.makeLoan(first, second, days.number[line], sweep.slots);
                case K_PAY:
                    return pay(world, sweep.slots, first, second);
                case K_FLOW:
                    world.standing.head = days.number[line];
                    return FINE;
                case K_DRY:
                    draw(world, days.number[line]);
                    return FINE;
                case K_PASS:
                    return world.endSpan(sweep);
                default:
                    return FINE;
            }
        }

        private static int pay(World world, Slots slots, int by, int to) {
            slots.lay(world);
            int minutes = Math.min(world.standing.debt(by, to), slots.left[by]);
            return minutes < 1 ? CANNOT_BE : world.makeLoan(by, to, minutes, slots);
        }

        private void draw(World world, int below) {
            drawn = (drawn * 2753 + 10559) % 65536;
            if (drawn / 8 % 16 < below) {
                world.standing.head /= 2;
                halved++;
            }
        }
    }
}
