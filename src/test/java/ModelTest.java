import java.math.BigInteger;
import java.util.ArrayList;
import java.util.Arrays;
import java.util.List;
import java.util.Random;

/** Random runs on WaterTurns beside a slow model that goes minute by minute with fractions of any size. */
public final class ModelTest {

    // ---- fractions

    record Frac(BigInteger top, BigInteger bottom) {
        static final Frac ZERO = of(0);

        static Frac of(long v) {
            return new Frac(BigInteger.valueOf(v), BigInteger.ONE);
        }

        static Frac make(BigInteger a, BigInteger b) {
            BigInteger g = a.gcd(b);
            if (b.signum() < 0) {
                g = g.negate();
            }
            return a.signum() == 0 ? ZERO : new Frac(a.divide(g), b.divide(g));
        }

        Frac plus(Frac o) {
            return make(top.multiply(o.bottom).add(o.top.multiply(bottom)), bottom.multiply(o.bottom));
        }

        Frac minus(Frac o) {
            return plus(new Frac(o.top.negate(), o.bottom));
        }

        Frac times(long a, long b) {
            return make(top.multiply(BigInteger.valueOf(a)), bottom.multiply(BigInteger.valueOf(b)));
        }

        Frac over(Frac o) {
            return make(top.multiply(o.bottom), bottom.multiply(o.top));
        }

        int compare(Frac o) {
            return top.multiply(o.bottom).compareTo(o.top.multiply(bottom));
        }

        Frac min(Frac o) {
            return compare(o) <= 0 ? this : o;
        }

        long floor() {
            BigInteger[] parts = top.divideAndRemainder(bottom);
            return parts[0].longValueExact() - (parts[1].signum() < 0 ? 1 : 0);
        }

        long ceil() {
            return -new Frac(top.negate(), bottom).floor();
        }
    }

    // ---- what a text says

    static final class Reach {
        String name;
        int of = -1;
        int loses;
        int in;
        int carries = -1;
        int from = -1;
        int to = -1;
    }

    static final class Field {
        String name;
        int on;
        int shares;
        int needs;
        int by = -1;
    }

    static final class Step {
        String word;
        int a;
        int b;
        int n;
        String test;
        char sign;
        List<Step> inner = new ArrayList<>();
    }

    static final class Loan {
        int from;
        int to;
        int minutes;
    }

    static final class Cut extends RuntimeException {
        private static final long serialVersionUID = 1;
    }

    static final class Stop extends RuntimeException {
        private static final long serialVersionUID = 1;
    }

    /** All that a MARK keeps. */
    static final class State {
        int head0 = 100;
        int span = 1440;
        int begins = 0;
        List<Reach> reaches = List.of();
        List<String> owners = List.of();
        List<Field> fields = List.of();
        int head = 100;
        boolean[] closed = new boolean[0];
        int[] order = new int[0];
        List<Loan> loans = new ArrayList<>();
        long[][] owed = new long[0][0];
        long[] account = new long[0];
        int number = 0;
        List<Step> days = null;

        State copy() {
            State s = new State();
            s.head0 = head0;
            s.span = span;
            s.begins = begins;
            s.reaches = reaches;
            s.owners = owners;
            s.fields = fields;
            s.head = head;
            s.closed = closed.clone();
            s.order = order.clone();
            s.loans = new ArrayList<>(loans);
            s.owed = new long[owed.length][];
            for (int k = 0; k < owed.length; k++) {
                s.owed[k] = owed[k].clone();
            }
            s.account = account.clone();
            s.number = number;
            s.days = days;
            return s;
        }
    }

    // ---- the model

    static final class Model {
        State s = new State();
        List<State> marks = new ArrayList<>();
        int status = 0;
        Frac told = Frac.ZERO;
        long[][] trays = new long[4][];
        int[] sorts = new int[4];
        int[] lived = null;

        long no(int why) {
            status = why;
            return -1;
        }

        long yes(long v) {
            status = 0;
            return v;
        }

        long bool(int why) {
            status = why;
            return why == 0 ? 1 : 0;
        }

        long frac(Frac f) {
            told = f;
            return bool(0);
        }

        boolean isF(int f) {
            return f >= 0 && f < s.fields.size();
        }

        boolean isR(int r) {
            return r >= 0 && r < s.reaches.size();
        }

        boolean isM(int m) {
            return m >= 0 && m < s.span;
        }

        void take(State fresh) {
            s = fresh;
            s.head = s.head0;
            s.closed = new boolean[s.reaches.size()];
            s.owed = new long[s.fields.size()][s.fields.size()];
            s.account = new long[s.fields.size()];
            List<Integer> order = new ArrayList<>();
            for (int r = 0; r < s.reaches.size(); r++) {
                if (s.reaches.get(r).of < 0) {
                    visit(r, order);
                }
            }
            s.order = order.stream().mapToInt(i -> i).toArray();
        }

        void visit(int r, List<Integer> order) {
            for (int f = 0; f < s.fields.size(); f++) {
                if (s.fields.get(f).on == r) {
                    order.add(f);
                }
            }
            for (int q = 0; q < s.reaches.size(); q++) {
                if (s.reaches.get(q).of == r) {
                    visit(q, order);
                }
            }
        }

        List<Integer> path(int reach) {
            List<Integer> p = new ArrayList<>();
            for (int r = reach; r >= 0; r = s.reaches.get(r).of) {
                p.add(0, r);
            }
            return p;
        }

        int[] turn(int field) {
            long all = 0;
            long ahead = 0;
            boolean seen = false;
            for (int f : s.order) {
                seen |= f == field;
                if (!seen) {
                    ahead += s.fields.get(f).shares;
                }
                all += s.fields.get(f).shares;
            }
            int from = (int) Frac.of(s.span).times(ahead, all).floor();
            int to = (int) Frac.of(s.span).times(ahead + s.fields.get(field).shares, all).floor();
            return new int[] {from, to};
        }

        /** Per minute: {FIELD of the TURN, FIELD of the SLOT, number of the LOAN or -1}. */
        int[][] map() {
            int[][] map = new int[s.span][];
            for (int f : s.order) {
                int[] turn = turn(f);
                for (int m = turn[0]; m < turn[1]; m++) {
                    map[m] = new int[] {f, f, -1};
                }
            }
            for (int k = 0; k < s.loans.size(); k++) {
                Loan loan = s.loans.get(k);
                int left = loan.minutes;
                for (int m = s.span - 1; m >= 0 && left > 0; m--) {
                    if (map[m][0] == loan.from && map[m][2] == -1) {
                        map[m][1] = loan.to;
                        map[m][2] = k;
                        left--;
                    }
                }
            }
            return map;
        }

        /** {FIELD, first minute, how many} of each SLOT. */
        List<int[]> slots() {
            List<int[]> slots = new ArrayList<>();
            int[][] map = map();
            for (int m = 0; m < s.span; m++) {
                if (map[m] == null) {
                    continue;
                }
                if (m == 0 || map[m][0] != map[m - 1][0] || map[m][2] != map[m - 1][2]) {
                    slots.add(new int[] {map[m][1], m, 0});
                }
                slots.get(slots.size() - 1)[2]++;
            }
            return slots;
        }

        boolean lets(int r, int m) {
            Reach reach = s.reaches.get(r);
            int day = (s.begins + m) % 1440;
            boolean shut = reach.from >= 0 && reach.from <= day && day < reach.to;
            return !shut && !s.closed[r];
        }

        boolean allLet(int field, int m) {
            for (int r : path(s.fields.get(field).on)) {
                if (!lets(r, m)) {
                    return false;
                }
            }
            return true;
        }

        Frac rate(int field) {
            return rate(field, s.head, -1);
        }

        Frac rate(int field, int head, int mended) {
            Frac flow = Frac.of(head);
            for (int r : path(s.fields.get(field).on)) {
                Reach reach = s.reaches.get(r);
                if (reach.carries >= 0) {
                    flow = flow.min(Frac.of(reach.carries));
                }
                if (r != mended) {
                    flow = flow.times(reach.in - reach.loses, reach.in);
                }
            }
            return flow;
        }

        int minutes(int field, boolean open) {
            int[][] map = map();
            int n = 0;
            for (int m = 0; m < s.span; m++) {
                if (map[m] != null && map[m][1] == field && (!open || allLet(field, m))) {
                    n++;
                }
            }
            return n;
        }

        Frac water(int field) {
            return rate(field).times(minutes(field, true), 1);
        }

        Frac all(int mended) {
            Frac sum = Frac.ZERO;
            for (int f = 0; f < s.fields.size(); f++) {
                sum = sum.plus(rate(f, s.head, mended).times(minutes(f, true), 1));
            }
            return sum;
        }

        /** What is lost and what runs out at a REACH. */
        Frac[] at(int reach) {
            int[][] map = map();
            Frac lost = Frac.ZERO;
            Frac out = Frac.ZERO;
            for (int m = 0; m < s.span; m++) {
                if (map[m] == null) {
                    continue;
                }
                Frac flow = Frac.of(s.head);
                for (int r : path(s.fields.get(map[m][1]).on)) {
                    Reach here = s.reaches.get(r);
                    if (!lets(r, m)) {
                        out = r == reach ? out.plus(flow) : out;
                        break;
                    }
                    Frac carried = here.carries < 0 ? flow : flow.min(Frac.of(here.carries));
                    Frac loss = carried.times(here.loses, here.in);
                    if (r == reach) {
                        out = out.plus(flow.minus(carried));
                        lost = lost.plus(loss);
                    }
                    flow = carried.minus(loss);
                }
            }
            return new Frac[] {lost, out};
        }

        long shortOf(int f) {
            Frac lack = Frac.of(s.fields.get(f).needs).minus(water(f));
            if (lack.compare(Frac.ZERO) <= 0) {
                return 0;
            }
            return rate(f).compare(Frac.ZERO) == 0 ? -1 : Math.min(999999, lack.over(rate(f)).ceil());
        }

        long spareOf(int f) {
            if (shortOf(f) != 0) {
                return 0;
            }
            int needs = s.fields.get(f).needs;
            return minutes(f, false) - (needs == 0 ? 0 : Frac.of(needs).over(rate(f)).ceil());
        }

        int below(int reach) {
            int set = 0;
            for (int f = 0; f < s.fields.size(); f++) {
                if (path(s.fields.get(f).on).contains(reach)) {
                    set |= 1 << f;
                }
            }
            return set;
        }

        int swap(int a, int b) {
            if (!isF(a) || !isF(b) || a == b) {
                return 1;
            }
            if (!s.loans.isEmpty()) {
                return 7;
            }
            for (int k = 0; k < s.order.length; k++) {
                s.order[k] = s.order[k] == a ? b : s.order[k] == b ? a : s.order[k];
            }
            return 0;
        }

        int left(int field) {
            int n = 0;
            for (int[] cell : map()) {
                n += cell != null && cell[0] == field && cell[2] == -1 ? 1 : 0;
            }
            return n;
        }

        int lend(int from, int to, int minutes) {
            if (!isF(from) || !isF(to) || from == to || minutes < 1 || minutes > 999) {
                return 1;
            }
            if (s.loans.size() == 12) {
                return 4;
            }
            if (left(from) < minutes) {
                return 7;
            }
            Loan loan = new Loan();
            loan.from = from;
            loan.to = to;
            loan.minutes = minutes;
            s.loans.add(loan);
            for (int k = 0; k < minutes; k++) {
                if (s.owed[from][to] > 0) {
                    s.owed[from][to]--;
                } else {
                    s.owed[to][from]++;
                }
            }
            return 0;
        }

        int pass() {
            if (s.number == 99) {
                return 4;
            }
            long[] more = new long[s.fields.size()];
            for (int f = 0; f < more.length; f++) {
                more[f] = water(f).floor();
            }
            for (int f = 0; f < more.length; f++) {
                s.account[f] += more[f];
            }
            s.loans.clear();
            s.number++;
            return 0;
        }

        // ---- the DAYS

        int done;
        int passed;
        int missed;
        int halved;
        long seedNow;

        /** Whether a STEP was left to be done. */
        boolean liveOn(int seed) {
            done = 0;
            passed = 0;
            missed = 0;
            halved = 0;
            seedNow = seed;
            try {
                doAll(s.days);
                return false;
            } catch (Cut cut) {
                return true;
            } catch (Stop stop) {
                return false;
            }
        }

        void doAll(List<Step> steps) {
            for (Step step : steps) {
                if (done == 300) {
                    throw new Cut();
                }
                done++;
                doOne(step);
            }
        }

        void doOne(Step step) {
            int why = 0;
            switch (step.word) {
                case "shut" -> s.closed[step.a] = true;
                case "open" -> s.closed[step.a] = false;
                case "swap" -> why = swap(step.a, step.b);
                case "lend" -> why = lend(step.a, step.b, step.n);
                case "pay" -> why = lend(step.a, step.b, (int) Math.min(s.owed[step.a][step.b], left(step.a)));
                case "flow" -> s.head = step.n;
                case "dry" -> {
                    seedNow = (seedNow * 2753 + 10559) % 65536;
                    if ((seedNow / 8) % 16 < step.n) {
                        s.head /= 2;
                        halved++;
                    }
                }
                case "pass" -> {
                    why = pass();
                    passed += why == 0 ? 1 : 0;
                }
                case "stop" -> throw new Stop();
                case "when" -> {
                    if (holds(step)) {
                        doAll(step.inner);
                    }
                }
                case "loop" -> {
                    for (int k = 0; k < step.n; k++) {
                        doAll(step.inner);
                    }
                }
                default -> throw new IllegalStateException(step.word);
            }
            missed += why == 0 ? 0 : 1;
        }

        boolean holds(Step step) {
            if (step.test.equals("shut")) {
                return s.closed[step.a];
            }
            long v = step.test.equals("owes") ? Arrays.stream(s.owed[step.a]).sum() : s.account[step.a];
            return step.sign == '<' ? v < step.n : step.sign == '>' ? v > step.n : v == step.n;
        }
    }

    // ---- random texts

    static final Random RANDOM = new Random(20261118);

    static int pick(int least, int most) {
        return least + RANDOM.nextInt(most - least + 1);
    }

    static boolean chance(int in) {
        return RANDOM.nextInt(in) == 0;
    }

    static String name(int k) {
        return (char) ('a' + k % 26) + (k % 3 == 0 ? "" : k % 3 == 1 ? "x" : "longish");
    }

    static final class Writer {
        final StringBuilder text = new StringBuilder();
        boolean endsWithLetters = false;

        /** Blanks where they must be, and some where they may be. */
        Writer put(Object token) {
            String t = token.toString();
            boolean sign = !Character.isLetterOrDigit(t.charAt(0));
            boolean alike = text.length() > 0 && !sign
                    && Character.isLetter(t.charAt(0)) == Character.isLetter(text.charAt(text.length() - 1))
                    && Character.isLetterOrDigit(text.charAt(text.length() - 1));
            if (alike || chance(6)) {
                text.append(chance(5) ? '\n' : ' ');
            }
            text.append(t);
            return this;
        }
    }

    static State randomState(Writer w) {
        State s = new State();
        List<Reach> reaches = new ArrayList<>();
        List<Field> fields = new ArrayList<>();
        List<String> owners = new ArrayList<>();
        s.reaches = reaches;
        s.fields = fields;
        s.owners = owners;
        int names = 0;
        if (!chance(5)) {
            s.head0 = chance(8) ? pick(0, 3) : chance(3) ? pick(0, 999) : pick(5, 60);
            w.put("head").put(s.head0).put(";");
        }
        if (!chance(12)) {
            s.span = chance(10) ? pick(1, 1440) : chance(8) ? pick(1, 5) : pick(6, 60);
            s.begins = chance(3) ? pick(0, 1439) : chance(2) ? pick(1400, 1439) : pick(0, 30);
            w.put("span").put(s.span).put("begins").put(s.begins).put(";");
        }
        int nr = chance(12) ? 0 : chance(6) ? 10 : pick(1, 6);
        for (int k = 0; k < nr; k++) {
            Reach r = new Reach();
            r.name = name(names++);
            w.put("reach").put(r.name);
            if (k > 0 && !chance(3)) {
                r.of = pick(0, k - 1);
                w.put("of").put(reaches.get(r.of).name);
            }
            r.loses = chance(3) ? 0 : chance(8) ? pick(0, 11) : pick(0, 3);
            r.in = chance(2) ? pick(r.loses + 1, 12) : Math.min(12, r.loses + pick(1, 4));
            w.put("loses").put(r.loses).put("in").put(r.in);
            if (chance(3)) {
                r.carries = chance(3) ? pick(1, 999) : pick(1, 30);
                w.put("carries").put(r.carries);
            }
            if (chance(3)) {
                int at = chance(3) ? pick(0, 1439) : (s.begins + pick(0, Math.max(1, s.span))) % 1440;
                r.from = chance(12) ? 0 : at;
                r.to = chance(8) ? 1440 : Math.min(1440, r.from + pick(1, chance(3) ? 400 : 20));
                w.put("shut").put(r.from).put("to").put(r.to);
            }
            w.put(";");
            reaches.add(r);
        }
        int no = pick(0, 6);
        for (int k = 0; k < no; k++) {
            owners.add(name(names++));
            w.put("owner").put(owners.get(k)).put(";");
        }
        int nf = nr == 0 ? 0 : chance(10) ? 0 : chance(6) ? 10 : pick(1, 6);
        for (int k = 0; k < nf; k++) {
            Field f = new Field();
            f.name = name(names++);
            f.on = pick(0, nr - 1);
            f.shares = chance(4) ? pick(1, 99) : pick(1, 6);
            f.needs = chance(5) ? 0 : chance(6) ? pick(0, 9999) : pick(0, 300);
            w.put("field").put(f.name).put("on").put(reaches.get(f.on).name).put("shares").put(f.shares)
                    .put("needs").put(f.needs);
            if (no > 0 && chance(2)) {
                f.by = pick(0, no - 1);
                w.put("by").put(owners.get(f.by));
            }
            w.put(";");
            fields.add(f);
        }
        return s;
    }

    static int stepsLeft;

    static List<Step> randomSteps(State s, Writer w, int depth) {
        List<Step> steps = new ArrayList<>();
        int n = chance(10) ? 0 : pick(1, depth == 0 ? 8 : 3);
        for (int k = 0; k < n && stepsLeft > 0; k++) {
            stepsLeft--;
            steps.add(randomStep(s, w, depth));
        }
        return steps;
    }

    static Step randomStep(State s, Writer w, int depth) {
        Step step = new Step();
        int nr = s.reaches.size();
        int nf = s.fields.size();
        String[] words = {"shut", "open", "swap", "lend", "lend", "pay", "flow", "dry", "dry", "pass", "pass",
            "when", "loop", "stop"};
        step.word = words[pick(0, chance(4) ? words.length - 1 : words.length - 2)];
        boolean needsReach = step.word.equals("shut") || step.word.equals("open");
        boolean needsFields = step.word.equals("swap") || step.word.equals("lend") || step.word.equals("pay");
        boolean block = step.word.equals("when") || step.word.equals("loop");
        if (needsReach && nr == 0 || needsFields && nf == 0 || block && depth == 3
                || step.word.equals("when") && (nf == 0 || nr == 0)) {
            step.word = "pass";
            block = false;
            needsReach = false;
            needsFields = false;
        }
        w.put(step.word);
        if (needsReach) {
            step.a = pick(0, nr - 1);
            w.put(s.reaches.get(step.a).name);
        }
        if (needsFields) {
            step.a = pick(0, nf - 1);
            step.b = pick(0, nf - 1);
            w.put(s.fields.get(step.a).name).put(s.fields.get(step.b).name);
        }
        if (step.word.equals("lend")) {
            step.n = chance(6) ? pick(1, 999) : pick(1, 8);
            w.put(step.n);
        } else if (step.word.equals("flow")) {
            step.n = pick(0, 200);
            w.put(step.n);
        } else if (step.word.equals("dry")) {
            step.n = pick(0, 16);
            w.put(step.n);
        } else if (step.word.equals("loop")) {
            step.n = chance(5) ? 99 : pick(1, 6);
            w.put(step.n);
        } else if (step.word.equals("when")) {
            step.test = new String[] {"shut", "owes", "rich"}[pick(0, 2)];
            w.put("when".equals(step.word) ? step.test : "");
            if (step.test.equals("shut")) {
                step.a = pick(0, nr - 1);
                w.put(s.reaches.get(step.a).name);
            } else {
                step.a = pick(0, nf - 1);
                step.sign = "<>=".charAt(pick(0, 2));
                step.n = chance(2) ? pick(0, 3) : pick(0, 999);
                w.put(s.fields.get(step.a).name).put(step.sign).put(step.n);
            }
        }
        w.put(";");
        if (block) {
            step.inner = randomSteps(s, w, depth + 1);
            w.put("end").put(";");
        }
        return step;
    }

    static int countSteps(List<Step> steps) {
        int n = 0;
        for (Step step : steps) {
            n += 1 + countSteps(step.inner);
        }
        return n;
    }

    // ---- runs

    static int wrong = 0;
    static int run;
    static String latestText = "";

    static void same(String call, long got, long want) {
        if (got != want) {
            wrong++;
            if (wrong < 30) {
                System.out.println("run " + run + ": " + call + " answered " + got + ", due is " + want
                        + " with " + latestText);
            }
        }
    }

    static void feed(WaterTurns x, String text) {
        for (int at = 0; at < text.length(); at += 20) {
            int[] ints = new int[5];
            for (int k = 0; k < 20; k++) {
                int c = at + k < text.length() ? text.charAt(at + k) : 'Z';
                ints[k / 4] |= c << (24 - 8 * (k % 4));
            }
            x.feed(ints[0], ints[1], ints[2], ints[3], ints[4]);
        }
    }

    static long flag(boolean b) {
        return b ? 1 : 0;
    }

    static int someField(Model m) {
        return chance(15) ? pick(-2, 11) : m.s.fields.isEmpty() ? 0 : pick(0, m.s.fields.size() - 1);
    }

    static int someReach(Model m) {
        return chance(15) ? pick(-2, 11) : m.s.reaches.isEmpty() ? 0 : pick(0, m.s.reaches.size() - 1);
    }

    static int someMinute(Model m) {
        return chance(15) ? pick(-2, 1500) : pick(0, m.s.span - 1);
    }

    static void oneCall(WaterTurns x, Model m, int which) {
        State s = m.s;
        int f = someField(m);
        int g = someField(m);
        int r = someReach(m);
        int t = someMinute(m);
        int w = pick(-1, 6);
        switch (which) {
            case 0 -> {
                int[] due = {s.head, s.span, s.begins, s.reaches.size(), s.owners.size(), s.fields.size(), s.number,
                    closedSet(s), s.loans.size()};
                int what = pick(-1, 9);
                same("told(" + what + ")", x.told(what),
                        what < 0 || what > 8 ? m.no(1) : m.yes(due[what]));
            }
            case 1 -> same("reach(" + r + "," + w + ")", x.reach(r, w), reach(m, r, w));
            case 2 -> same("field(" + f + "," + w + ")", x.field(f, w), field(m, f, w));
            case 3 -> same("below(" + r + ")", x.below(r), m.isR(r) ? m.yes(m.below(r)) : m.no(1));
            case 4 -> {
                int k = pick(-1, s.fields.size());
                same("order(" + k + ")", x.order(k), k < 0 ? m.no(1)
                        : k < s.fields.size() ? m.yes(s.order[k]) : m.no(6));
            }
            case 5 -> {
                int what = pick(-1, 2);
                same("turn(" + f + "," + what + ")", x.turn(f, what), !m.isF(f) || what < 0 || what > 1 ? m.no(1)
                        : m.yes(what == 0 ? m.turn(f)[0] : m.turn(f)[1] - m.turn(f)[0]));
            }
            case 6 -> same("swap(" + f + "," + g + ")", flag(x.swap(f, g)), m.bool(m.swap(f, g)));
            case 7, 8, 9 -> {
                int n = chance(10) ? pick(-1, 1001) : pick(1, 1 + s.span / 6);
                long got = x.lend(f, g, n);
                int why = m.lend(f, g, n);
                same("lend(" + f + "," + g + "," + n + ")", got, why == 0 ? m.yes(s.owed[g][f]) : m.no(why));
            }
            case 10 -> same("owed(" + f + "," + g + ")", x.owed(f, g),
                    m.isF(f) && m.isF(g) && f != g ? m.yes(s.owed[f][g]) : m.no(1));
            case 11 -> same("slots()", x.slots(), m.yes(m.slots().size()));
            case 12 -> {
                List<int[]> slots = m.slots();
                int k = pick(-1, slots.size());
                int what = pick(-1, 3);
                same("slot(" + k + "," + what + ")", x.slot(k, what), what < 0 || what > 2 ? m.no(1)
                        : k < 0 || k >= slots.size() ? m.no(6) : m.yes(slots.get(k)[what]));
            }
            case 13 -> {
                int[][] map = m.map();
                same("whose(" + t + ")", x.whose(t), !m.isM(t) ? m.no(1)
                        : map[t] == null ? m.no(6) : m.yes(map[t][1]));
            }
            case 14 -> {
                int what = pick(-1, 2);
                same("minutes(" + f + "," + what + ")", x.minutes(f, what), !m.isF(f) || what < 0 || what > 1
                        ? m.no(1) : m.yes(m.minutes(f, what == 1)));
            }
            case 15 -> {
                boolean is = chance(3);
                same("close(" + r + ")", flag(x.close(r, is)), m.bool(m.isR(r) ? 0 : 1));
                if (m.isR(r)) {
                    s.closed[r] = is;
                }
            }
            case 16 -> {
                int litres = chance(8) ? pick(-1, 1000) : pick(0, 60);
                boolean can = litres >= 0 && litres <= 999;
                same("head(" + litres + ")", flag(x.head(litres)), m.bool(can ? 0 : 1));
                s.head = can ? litres : s.head;
            }
            case 17 -> same("lets(" + r + "," + t + ")", x.lets(r, t),
                    m.isR(r) && m.isM(t) ? m.yes(flag(m.lets(r, t))) : m.no(1));
            case 18 -> same("rate(" + f + ")", flag(x.rate(f)), m.isF(f) ? m.frac(m.rate(f)) : m.bool(1));
            case 19 -> same("water(" + f + ")", flag(x.water(f)), m.isF(f) ? m.frac(m.water(f)) : m.bool(1));
            case 20 -> same("lost(" + r + ")", flag(x.lost(r)), m.isR(r) ? m.frac(m.at(r)[0]) : m.bool(1));
            case 21 -> {
                Frac head = Frac.of(s.fields.isEmpty() ? (long) s.head * s.span : 0);
                same("runsOut(" + r + ")", flag(x.runsOut(r)), r == -1 ? m.frac(head)
                        : m.isR(r) ? m.frac(m.at(r)[1]) : m.bool(1));
            }
            case 22 -> {
                int o = pick(-2, s.owners.size());
                same("waterOf(" + o + ")", flag(x.waterOf(o)), waterOf(m, o));
            }
            case 23 -> same("lacking(" + f + ")", x.lacking(f), !m.isF(f) ? m.no(1)
                    : m.shortOf(f) < 0 ? m.no(7) : m.yes(m.shortOf(f)));
            case 24 -> same("spare(" + f + ")", x.spare(f), m.isF(f) ? m.yes(m.spareOf(f)) : m.no(1));
            case 25 -> same("fewest()", x.fewest(), fewest(m));
            case 26 -> same("neediest()", x.neediest(), neediest(m));
            case 27 -> {
                boolean is = chance(2);
                same("richest(" + is + ")", x.richest(is), richest(m, is));
            }
            default -> otherCall(x, m, which, f, t);
        }
    }

    static void otherCall(WaterTurns x, Model m, int which, int f, int t) {
        State s = m.s;
        switch (which) {
            case 28 -> same("mending()", x.mending(), mending(m));
            case 29 -> same("off()", flag(x.off()), off(m));
            case 30 -> same("driest()", x.driest(), m.yes(driest(m)));
            case 31 -> same("waits(" + f + "," + t + ")", x.waits(f, t), waits(m, f, t));
            case 32 -> same("headFor(" + f + ")", x.headFor(f), headFor(m, f));
            case 33 -> same("shadow()", x.shadow(), shadow(m));
            case 34 -> {
                int what = pick(-1, 2);
                if (s.span <= 60) {
                    same("bestSwap(" + what + ")", x.bestSwap(what), bestSwap(m, what));
                }
            }
            case 35 -> same("debts()", x.debts(), m.yes(debts(s)));
            case 36 -> {
                int o = pick(-1, s.owners.size());
                same("balance(" + o + ")", x.balance(o), balance(m, o));
            }
            case 37, 38 -> trayCall(x, m);
            case 39 -> {
                int tray = pick(-1, 4);
                int many = chance(4) ? pick(-1, 62) : pick(1, 12);
                if (chance(2)) {
                    same("mean(" + tray + "," + many + ")", flag(x.mean(tray, many)), mean(m, tray, many));
                } else {
                    same("gaps(" + tray + "," + many + ")", x.gaps(tray, many), gaps(m, tray, many));
                }
            }
            case 40 -> leakCall(x, m);
            case 41 -> {
                long got = x.pass();
                int why = m.pass();
                same("pass()", got, why == 0 ? m.yes(s.number) : m.no(why));
            }
            case 42, 43 -> same("account(" + f + ")", x.account(f), m.isF(f) ? m.yes(s.account[f]) : m.no(1));
            case 44 -> liveCall(x, m);
            case 45 -> {
                int what = pick(-1, 4);
                same("lived(" + what + ")", x.lived(what), what < 0 || what > 3 ? m.no(1)
                        : m.lived == null ? m.no(6) : m.yes(m.lived[what]));
            }
            case 46 -> oddsCall(x, m, f);
            case 47 -> {
                if (m.marks.size() == 3) {
                    same("mark()", x.mark(), m.no(4));
                } else {
                    m.marks.add(m.s.copy());
                    same("mark()", x.mark(), m.yes(m.marks.size()));
                }
            }
            case 48 -> {
                if (m.marks.isEmpty()) {
                    same("back()", x.back(), m.no(6));
                } else {
                    m.s = m.marks.remove(m.marks.size() - 1);
                    same("back()", x.back(), m.yes(m.marks.size()));
                }
            }
            case 49 -> daysCall(x, m);
            case 50 -> valleyCall(x, m);
            default -> throw new IllegalStateException();
        }
    }

    static int closedSet(State s) {
        int set = 0;
        for (int r = 0; r < s.closed.length; r++) {
            set |= s.closed[r] ? 1 << r : 0;
        }
        return set;
    }

    static long reach(Model m, int r, int w) {
        if (!m.isR(r) || w < 0 || w > 5) {
            return m.no(1);
        }
        Reach reach = m.s.reaches.get(r);
        int v = new int[] {reach.of, reach.loses, reach.in, reach.carries, reach.from, reach.to}[w];
        return v < 0 ? m.no(6) : m.yes(v);
    }

    static long field(Model m, int f, int w) {
        if (!m.isF(f) || w < 0 || w > 3) {
            return m.no(1);
        }
        Field field = m.s.fields.get(f);
        int v = new int[] {field.on, field.shares, field.needs, field.by}[w];
        return v < 0 ? m.no(6) : m.yes(v);
    }

    static long waterOf(Model m, int o) {
        if (o < -1 || o >= m.s.owners.size()) {
            return m.bool(1);
        }
        Frac sum = Frac.ZERO;
        for (int f = 0; f < m.s.fields.size(); f++) {
            sum = m.s.fields.get(f).by == o ? sum.plus(m.water(f)) : sum;
        }
        return m.frac(sum);
    }

    static long fewest(Model m) {
        long lack = 0;
        long spare = 0;
        for (int f = 0; f < m.s.fields.size(); f++) {
            if (m.shortOf(f) < 0) {
                return m.no(7);
            }
            lack += m.shortOf(f);
            spare += m.spareOf(f);
        }
        return spare >= lack ? m.yes(lack) : m.no(6);
    }

    static long neediest(Model m) {
        int best = -1;
        for (int f = 0; f < m.s.fields.size(); f++) {
            if (m.shortOf(f) < 0) {
                return m.no(7);
            }
            if (m.shortOf(f) > (best < 0 ? 0 : m.shortOf(best))) {
                best = f;
            }
        }
        return best < 0 ? m.no(6) : m.yes(best);
    }

    static long richest(Model m, boolean is) {
        int best = -1;
        for (int f = m.s.fields.size() - 1; f >= 0; f--) {
            Frac worth = m.water(f).times(1, m.s.fields.get(f).shares);
            Frac that = best < 0 ? worth : m.water(best).times(1, m.s.fields.get(best).shares);
            if (is ? worth.compare(that) >= 0 : worth.compare(that) <= 0) {
                best = f;
            }
        }
        return best < 0 ? m.no(6) : m.yes(best);
    }

    static long best(Model m, int best, Frac most) {
        if (best < 0) {
            return m.no(6);
        }
        m.frac(most);
        return m.yes(best);
    }

    static long mending(Model m) {
        Frac most = Frac.ZERO;
        int best = -1;
        Frac now = m.all(-1);
        for (int r = 0; r < m.s.reaches.size(); r++) {
            Frac more = m.all(r).minus(now);
            if (more.compare(most) > 0) {
                most = more;
                best = r;
            }
        }
        return best(m, best, most);
    }

    static long shadow(Model m) {
        Frac most = Frac.ZERO;
        int best = -1;
        Frac now = m.all(-1);
        for (int r = 0; r < m.s.reaches.size(); r++) {
            boolean was = m.s.closed[r];
            m.s.closed[r] = true;
            Frac cost = now.minus(m.all(-1));
            m.s.closed[r] = was;
            if (cost.compare(most) > 0) {
                most = cost;
                best = r;
            }
        }
        return best(m, best, most);
    }

    static long bestSwap(Model m, int what) {
        if (what < 0 || what > 1) {
            return m.no(1);
        }
        if (!m.s.loans.isEmpty()) {
            return m.no(7);
        }
        Frac most = Frac.ZERO;
        int best = -1;
        Frac now = m.all(-1);
        int[] order = m.s.order.clone();
        for (int i = 0; i < order.length; i++) {
            for (int j = i + 1; j < order.length; j++) {
                m.swap(order[i], order[j]);
                Frac more = m.all(-1).minus(now);
                m.swap(order[i], order[j]);
                if (more.compare(most) > 0) {
                    most = more;
                    best = what == 0 ? order[i] : order[j];
                }
            }
        }
        return best(m, best, most);
    }

    static long off(Model m) {
        if (m.s.fields.isEmpty()) {
            return m.bool(6);
        }
        long all = m.s.fields.stream().mapToLong(f -> f.shares).sum();
        Frac most = Frac.ZERO;
        for (int f = 0; f < m.s.fields.size(); f++) {
            Frac exact = Frac.of(m.s.span).times(m.s.fields.get(f).shares, all);
            Frac off = exact.minus(Frac.of(m.turn(f)[1] - m.turn(f)[0]));
            off = off.compare(Frac.ZERO) < 0 ? Frac.ZERO.minus(off) : off;
            most = off.compare(most) > 0 ? off : most;
        }
        if (most.compare(Frac.of(1)) >= 0) {
            same("nobody is off by a minute", 1, 0);
        }
        return m.frac(most);
    }

    static boolean[] wet(Model m) {
        int[][] map = m.map();
        boolean[] wet = new boolean[m.s.span];
        for (int t = 0; t < m.s.span; t++) {
            wet[t] = map[t] != null && m.allLet(map[t][1], t) && m.rate(map[t][1]).compare(Frac.ZERO) > 0;
        }
        return wet;
    }

    static int driest(Model m) {
        int most = 0;
        int now = 0;
        for (boolean is : wet(m)) {
            now = is ? 0 : now + 1;
            most = Math.max(most, now);
        }
        return most;
    }

    static long waits(Model m, int f, int t) {
        if (!m.isF(f) || !m.isM(t)) {
            return m.no(1);
        }
        boolean[] wet = wet(m);
        int[][] map = m.map();
        for (int k = t; k < m.s.span; k++) {
            if (wet[k] && map[k][1] == f) {
                return m.yes(k - t);
            }
        }
        return m.no(6);
    }

    static long headFor(Model m, int f) {
        if (!m.isF(f)) {
            return m.no(1);
        }
        int open = m.minutes(f, true);
        for (int head = 0; head <= 999; head++) {
            if (m.rate(f, head, -1).times(open, 1).compare(Frac.of(m.s.fields.get(f).needs)) >= 0) {
                return m.yes(head);
            }
        }
        return m.no(6);
    }

    static int debts(State s) {
        int n = 0;
        for (int a = 0; a < s.owed.length; a++) {
            for (int b = 0; b < s.owed.length; b++) {
                n += s.owed[a][b] > 0 ? 1 : 0;
            }
        }
        return n;
    }

    static long balance(Model m, int o) {
        if (o < 0 || o >= m.s.owners.size()) {
            return m.no(1);
        }
        long sum = 0;
        for (int a = 0; a < m.s.owed.length; a++) {
            for (int b = 0; b < m.s.owed.length; b++) {
                sum += m.s.fields.get(b).by == o ? m.s.owed[a][b] : 0;
                sum -= m.s.fields.get(a).by == o ? m.s.owed[a][b] : 0;
            }
        }
        return m.yes(sum);
    }

    static long cut(int sort, long v) {
        return sort == 0 ? (byte) v : sort == 1 ? (short) v : sort == 2 ? (int) v : v;
    }

    static int badTray(Model m, int tray) {
        return tray < 0 || tray > 3 ? 1 : m.trays[tray] == null ? 2 : 0;
    }

    static void trayCall(WaterTurns x, Model m) {
        int tray = chance(12) ? pick(-1, 4) : pick(0, 3);
        int other = chance(12) ? pick(-1, 4) : pick(0, 3);
        int place = chance(10) ? pick(-1, 61) : pick(0, 12);
        int at = chance(10) ? pick(-1, 61) : pick(0, 12);
        int bad = badTray(m, tray);
        int which = pick(0, 9);
        if (which < 2) {
            int sort = chance(10) ? pick(-1, 4) : pick(0, 3);
            int many = chance(5) ? pick(-1, 61) : pick(5, 25);
            boolean can = tray >= 0 && tray < 4 && sort >= 0 && sort < 4 && many >= 0 && many <= 60;
            same("tray", flag(x.tray(tray, sort, many)), m.bool(can ? 0 : 1));
            if (can) {
                m.trays[tray] = new long[many];
                m.sorts[tray] = sort;
            }
        } else if (which < 6) {
            long v = chance(3) ? -1 : chance(6) ? RANDOM.nextLong() : pick(-1, 1200);
            int why = bad != 0 ? bad : place < 0 || place >= m.trays[tray].length ? 3 : 0;
            same("write", flag(x.write(tray, place, v)), m.bool(why));
            if (why == 0) {
                m.trays[tray][place] = cut(m.sorts[tray], v);
            }
        } else if (which < 8) {
            int why = bad != 0 ? bad : place < 0 || place >= m.trays[tray].length ? 3 : 0;
            same("read", x.read(tray, place), why == 0 ? m.yes(m.trays[tray][place]) : m.no(why));
        } else {
            int many = chance(10) ? Integer.MAX_VALUE - pick(0, 70) : chance(10) ? -1 : pick(0, 12);
            int bad2 = badTray(m, other);
            int why = 0;
            if (bad == 1 || bad2 == 1 || place < 0 || at < 0 || many < 0) {
                why = 1;
            } else if (bad == 2 || bad2 == 2) {
                why = 2;
            } else if (m.sorts[tray] != m.sorts[other]) {
                why = 8;
            } else if ((long) place + many > m.trays[tray].length || (long) at + many > m.trays[other].length) {
                why = 3;
            }
            same("pour", flag(x.pour(tray, place, other, at, many)), m.bool(why));
            if (why == 0) {
                long[] row = m.trays[tray].clone();
                for (int k = 0; k < many; k++) {
                    m.trays[other][at + k] = row[place + k];
                }
            }
        }
    }

    static int badGauge(Model m, int tray, int many, int least, int most) {
        int bad = badTray(m, tray);
        if (bad == 1 || many < least || many > 60) {
            return 1;
        }
        if (bad == 2) {
            return 2;
        }
        if (many > m.trays[tray].length) {
            return 3;
        }
        for (int k = 0; k < many; k++) {
            if (m.trays[tray][k] < -1 || m.trays[tray][k] > most) {
                return 5;
            }
        }
        return 0;
    }

    static long mean(Model m, int tray, int many) {
        int why = badGauge(m, tray, many, 1, 999999);
        if (why != 0) {
            return m.bool(why);
        }
        long[] readings = Arrays.stream(m.trays[tray]).limit(many).filter(v -> v >= 0).toArray();
        return readings.length == 0 ? m.bool(6)
                : m.frac(Frac.of(Arrays.stream(readings).sum()).times(1, readings.length));
    }

    static long gaps(Model m, int tray, int many) {
        int why = badGauge(m, tray, many, 1, 999999);
        if (why != 0) {
            return m.no(why);
        }
        int most = 0;
        for (int from = 0; from < many; from++) {
            int to = from;
            while (to < many && m.trays[tray][to] == -1) {
                to++;
            }
            most = Math.max(most, to - from);
        }
        return m.yes(most);
    }

    static void leakCall(WaterTurns x, Model m) {
        State s = m.s;
        int tray = chance(10) ? pick(-1, 4) : 3;
        if (tray == 3 && !chance(4)) {
            x.tray(3, 2, Math.max(1, s.fields.size()));
            m.trays[3] = new long[Math.max(1, s.fields.size())];
            m.sorts[3] = 2;
            int leaking = s.reaches.isEmpty() ? 0 : m.below(pick(0, s.reaches.size() - 1));
            for (int f = 0; f < s.fields.size(); f++) {
                long whole = m.rate(f).floor();
                boolean less = (leaking >> f & 1) == 1;
                long v = chance(4) ? -1 : less ? Math.max(0, whole - 1) : whole;
                v = chance(20) ? pick(-2, 1001) : v;
                x.write(3, f, v);
                m.trays[3][f] = v;
            }
        }
        same("suspects(" + tray + ")", x.suspects(tray), suspects(m, tray));
    }

    static long suspects(Model m, int tray) {
        int why = badGauge(m, tray, m.s.fields.size(), 0, 999);
        if (why != 0) {
            return m.no(why);
        }
        int set = 0;
        for (int r = 0; r < m.s.reaches.size(); r++) {
            boolean one = false;
            boolean fits = true;
            for (int f = 0; f < m.s.fields.size(); f++) {
                long v = m.trays[tray][f];
                boolean less = v != -1 && v < m.rate(f).floor();
                boolean below = m.path(m.s.fields.get(f).on).contains(r);
                fits &= !less || below;
                fits &= !below || v == -1 || less;
                one |= less && below;
            }
            set |= fits && one ? 1 << r : 0;
        }
        return m.yes(set);
    }

    static void liveCall(WaterTurns x, Model m) {
        int seed = chance(12) ? pick(-1, 1) * 10000 : pick(0, 9999);
        long got = x.live(seed);
        if (seed < 0 || seed > 9999) {
            same("live(" + seed + ")", got, m.no(1));
        } else if (m.s.days == null) {
            same("live(" + seed + ")", got, m.no(6));
        } else {
            boolean cut = m.liveOn(seed);
            same("live(" + seed + ")", got, m.yes(m.done));
            m.lived = new int[] {m.passed, m.missed, m.halved, cut ? 1 : 0};
            for (int what = 0; what < 4; what++) {
                same("lived(" + what + ") behind live(" + seed + ")", x.lived(what), m.lived[what]);
            }
            checkAll(x, m);
        }
    }

    static void oddsCall(WaterTurns x, Model m, int f) {
        int litres = chance(12) ? pick(-1, 1) * 10000 : chance(3) ? pick(0, 9999) : pick(0, 600);
        int many = chance(12) ? pick(0, 11) : pick(1, m.s.span > 100 ? 2 : 10);
        int seed = chance(8) ? 10000 - many + pick(-1, 1) : pick(0, 9990);
        boolean got = x.odds(f, litres, seed, many);
        String call = "odds(" + f + "," + litres + "," + seed + "," + many + ")";
        if (!m.isF(f) || litres < 0 || litres > 9999 || many < 1 || many > 10 || seed < 0 || seed + many > 10000) {
            same(call, flag(got), m.bool(1));
        } else if (m.s.days == null) {
            same(call, flag(got), m.bool(6));
        } else {
            State was = m.s;
            int reached = 0;
            for (int k = 0; k < many; k++) {
                m.s = was.copy();
                m.liveOn(seed + k);
                reached += m.s.account[f] >= litres ? 1 : 0;
            }
            m.s = was;
            same(call, flag(got), m.frac(Frac.of(reached).times(1, many)));
        }
    }

    static void daysCall(WaterTurns x, Model m) {
        Writer w = new Writer();
        stepsLeft = 30;
        List<Step> days = randomSteps(m.s, w, 0);
        String text = w.text.toString();
        if (text.length() > 300) {
            return;
        }
        feed(x, text);
        long got = x.days(text.length());
        same("days(" + text + ")", got, m.yes(countSteps(days)));
        same("fault(0)", x.fault(0), 0);
        m.s.days = days;
    }

    static void valleyCall(WaterTurns x, Model m) {
        Writer w = new Writer();
        State fresh = randomState(w);
        String text = w.text.toString();
        if (text.length() > 900) {
            return;
        }
        latestText = text;
        feed(x, text);
        same("valley(" + text + ")", x.valley(text.length()), m.yes(fresh.fields.size()));
        same("fault(1)", x.fault(1), -1);
        m.take(fresh);
    }

    static void checkAll(WaterTurns x, Model m) {
        State s = m.s;
        same("HEAD", x.told(0), s.head);
        same("SPAN", x.told(6), s.number);
        same("CLOSED", x.told(7), closedSet(s));
        same("LOANS", x.told(8), s.loans.size());
        for (int f = 0; f < s.fields.size(); f++) {
            same("order", x.order(f), s.order[f]);
            same("account", x.account(f), s.account[f]);
            for (int g = 0; g < s.fields.size(); g++) {
                if (f != g) {
                    same("owed", x.owed(f, g), s.owed[f][g]);
                }
            }
        }
        x.slots();
    }

    public static void main(String[] args) {
        int runs = args.length > 0 ? Integer.parseInt(args[0]) : 400;
        for (run = 1; run <= runs; run++) {
            WaterTurns x = new WaterTurns();
            Model m = new Model();
            for (int call = 0; call < 150; call++) {
                int which = call == 0 || chance(80) ? 50 : chance(20) ? 49 : pick(0, 48);
                oneCall(x, m, which);
                same("status() behind call kind " + which, x.status(), m.status);
                same("top() behind call kind " + which, x.top(), m.told.top().longValueExact());
                same("bottom() behind call kind " + which, x.bottom(), m.told.bottom().longValueExact());
            }
            checkAll(x, m);
        }
        System.out.println(wrong == 0 ? "the model agrees" : wrong + " answers are not the model's");
        if (wrong != 0) {
            System.exit(1);
        }
    }
}
