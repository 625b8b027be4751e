import java.util.ArrayList;
import java.util.List;
import java.util.Random;
import java.util.regex.Matcher;
import java.util.regex.Pattern;

/** Texts with TOKENS put in, left out or changed, beside a reader that knows the forms of PARTS and STEPS as rows. */
public final class FaultModel extends Checks {
    private static final Random RANDOM = new Random(8);
    private static final Pattern TOKEN = Pattern.compile("[a-z]+|[0-9]+|[;<>=]|[ \\n]+|(?s:.)");
    private static final List<String> KEYWORDS = List.of(("head span begins reach of loses in carries shut to owner "
            + "field on shares needs by open swap lend pay flow dry pass when turn owes rich loop end stop").split(" "));

    /**
     * Each form as its TOKENS: a WORD is itself; N a new NAME; R, O, F a NAME of a REACH, OWNER, FIELD; C a sign that
     * compares; a NUMBER is its least and most (L: one more than the NUMBER ahead).
     */
    private static final List<String[]> PARTS = forms("head 0-999 ;", "span 1-1440 begins 0-1439 ;",
            "reach N loses 0-11 in L-12 ;", "reach N of R loses 0-11 in L-12 ;",
            "reach N loses 0-11 in L-12 carries 1-999 ;", "reach N of R loses 0-11 in L-12 carries 1-999 ;",
            "reach N loses 0-11 in L-12 shut 0-1439 to L-1440 ;", "reach N of R loses 0-11 in L-12 shut 0-1439 to L-1440 ;",
            "reach N loses 0-11 in L-12 carries 1-999 shut 0-1439 to L-1440 ;",
            "reach N of R loses 0-11 in L-12 carries 1-999 shut 0-1439 to L-1440 ;", "owner N ;",
            "field N on R shares 1-99 needs 0-9999 ;", "field N on R shares 1-99 needs 0-9999 by O ;");
    private static final List<String[]> STEPS = forms("shut R ;", "open R ;", "swap F F ;", "lend F F 1-999 ;", "pay F F ;",
            "flow 0-999 ;", "dry 0-16 ;", "pass ;", "when shut R ;", "when owes F C 0-999 ;", "when rich F C 0-9999 ;",
            "loop 1-99 ;", "end ;", "stop ;");

    private static List<String[]> forms(String... rows) {
        List<String[]> forms = new ArrayList<>();
        for (String row : rows) {
            forms.add(row.split(" "));
        }
        return forms;
    }

    // ---- the reader

    /** What stands in the VALLEY that is there, or is told so far. */
    private static final class Things {
        final List<String> reaches = new ArrayList<>();
        final List<String> owners = new ArrayList<>();
        final List<String> fields = new ArrayList<>();
        boolean hasHead = false;
        boolean hasSpan = false;

        List<String> of(char kind) {
            return kind == 'R' ? reaches : kind == 'O' ? owners : fields;
        }
    }

    private static int fault;
    private static int place;
    private static int steps;

    private static boolean fits(String form, String token) {
        boolean isWord = token.matches("[a-z]+");
        if (form.length() == 1 && "NROF".contains(form)) {
            return isWord && token.length() <= 8 && !KEYWORDS.contains(token);
        }
        if (form.equals("C")) {
            return token.matches("[<>=]");
        }
        return form.contains("-") ? token.matches("[0-9]+") : form.equals(token);
    }

    /** Of a TOKEN that may stand there: FAULT 3 or 4, or 0. */
    private static int wrongIn(String form, String token, int ahead, Things things) {
        if (form.equals("N")) {
            boolean isTaken = things.reaches.contains(token) || things.owners.contains(token)
                    || things.fields.contains(token);
            return isTaken ? 3 : 0;
        }
        if (form.length() == 1 && "ROF".contains(form)) {
            return things.of(form.charAt(0)).contains(token) ? 0 : 3;
        }
        if (form.contains("-")) {
            String[] edges = form.split("-");
            int least = edges[0].equals("L") ? ahead + 1 : Integer.parseInt(edges[0]);
            int value = Integer.parseInt(token);
            return value < least || value > Integer.parseInt(edges[1]) ? 4 : 0;
        }
        return 0;
    }

    /** Of the WORD with which a PART begins: FAULT 5 or 6, or 0. */
    private static int wrongBegin(String word, Things things) {
        if (word.equals("head") && things.hasHead || word.equals("span") && things.hasSpan) {
            return 5;
        }
        boolean isFull = word.equals("reach") && things.reaches.size() == 10
                || word.equals("owner") && things.owners.size() == 6
                || word.equals("field") && things.fields.size() == 10;
        return isFull ? 6 : 0;
    }

    private static int wrongStep(String word, int depth) {
        if (word.equals("end")) {
            return depth == 0 ? 2 : 0;
        }
        if (steps == 30) {
            return 6;
        }
        return depth == 3 && (word.equals("when") || word.equals("loop")) ? 7 : 0;
    }

    private static void blame(int what, int where) {
        fault = what;
        place = where;
    }

    /** Reads a text by rows; DAYS are read with the NAMES of the VALLEY that is there. */
    private static void read(String text, boolean isDays, Things things) {
        blame(0, NONE);
        steps = 0;
        int depth = 0;
        List<String> part = new ArrayList<>();
        List<String[]> left = isDays ? STEPS : PARTS;
        int ahead = 0;
        Matcher m = TOKEN.matcher(text);
        while (m.find()) {
            String token = m.group();
            if (token.isBlank() && token.matches("[ \\n]+")) {
                continue;
            }
            if (!token.matches("[a-z]+|[0-9]{1,4}|[;<>=]")) {
                blame(1, m.start());
                return;
            }
            List<String[]> still = new ArrayList<>();
            for (String[] form : left) {
                if (fits(form[part.size()], token)) {
                    still.add(form);
                }
            }
            if (still.isEmpty()) {
                blame(2, m.start());
                return;
            }
            int why = wrongIn(still.get(0)[part.size()], token, ahead, things);
            if (part.isEmpty()) {
                why = isDays ? wrongStep(token, depth) : wrongBegin(token, things);
            }
            if (why != 0) {
                blame(why, m.start());
                return;
            }
            ahead = token.matches("[0-9]+") ? Integer.parseInt(token) : ahead;
            left = still;
            part.add(token);
            if (token.equals(";")) {
                String word = part.get(0);
                depth += word.equals("end") ? -1 : word.equals("when") || word.equals("loop") ? 1 : 0;
                steps += word.equals("end") ? 0 : 1;
                if (!isDays) {
                    keep(part, things);
                }
                part.clear();
                left = isDays ? STEPS : PARTS;
            }
        }
        if (!part.isEmpty() || depth > 0) {
            blame(2, text.length());
        }
    }

    private static void keep(List<String> part, Things things) {
        switch (part.get(0)) {
            case "head" -> things.hasHead = true;
            case "span" -> things.hasSpan = true;
            case "reach" -> things.reaches.add(part.get(1));
            case "owner" -> things.owners.add(part.get(1));
            default -> things.fields.add(part.get(1));
        }
    }

    // ---- texts

    private static int pick(int least, int most) {
        return least + RANDOM.nextInt(most - least + 1);
    }

    private static <T> T any(List<T> all) {
        return all.get(RANDOM.nextInt(all.size()));
    }

    private static String number(int least, int most) {
        int v = RANDOM.nextInt(3) > 0 ? pick(least, most) : RANDOM.nextBoolean() ? least : most;
        return RANDOM.nextInt(40) > 0 ? String.valueOf(v) : String.valueOf(v + (RANDOM.nextBoolean() ? 1 : -1)).replace("-", "");
    }

    private static String name(Things things, char kind) {
        List<String> known = things.of(kind);
        return known.isEmpty() || RANDOM.nextInt(60) == 0 ? fresh() : any(known);
    }

    private static String fresh() {
        StringBuilder s = new StringBuilder();
        int n = RANDOM.nextInt(12) == 0 ? pick(1, 9) : pick(4, 6);
        for (int k = 0; k < n; k++) {
            s.append((char) pick('a', 'f'));
        }
        return s.toString();
    }

    /** The TOKENS of a PART or STEP, mostly right. */
    private static List<String> write(String[] form, Things things) {
        List<String> tokens = new ArrayList<>();
        int ahead = 0;
        for (String f : form) {
            if (f.contains("-")) {
                String[] edges = f.split("-");
                int most = Integer.parseInt(edges[1]);
                int least = edges[0].equals("L") ? Math.min(most, ahead + 1) : Integer.parseInt(edges[0]);
                tokens.add(number(least, most));
                ahead = Integer.parseInt(tokens.get(tokens.size() - 1));
            } else if (f.equals("N")) {
                tokens.add(fresh());
            } else if (f.equals("C")) {
                tokens.add(any(List.of("<", ">", "=")));
            } else {
                tokens.add(f.length() == 1 && "ROF".contains(f) ? name(things, f.charAt(0)) : f);
            }
        }
        return tokens;
    }

    /** Whether there is a thing for each NAME; now and then it doesn't matter. */
    private static boolean hasAll(String[] form, Things things) {
        for (String f : form) {
            if (f.length() == 1 && "ROF".contains(f) && things.of(f.charAt(0)).isEmpty()) {
                return RANDOM.nextInt(30) == 0;
            }
        }
        return true;
    }

    private static List<String> valleyTokens() {
        Things things = new Things();
        List<String> tokens = new ArrayList<>();
        int parts = RANDOM.nextInt(4) == 0 ? pick(10, 30) : pick(0, 8);
        for (int k = 0; k < parts; k++) {
            String[] form = any(RANDOM.nextInt(3) == 0 ? PARTS : PARTS.subList(2, PARTS.size()));
            form = RANDOM.nextInt(12) == 0 ? PARTS.get(RANDOM.nextInt(2)) : form;
            boolean isAgain = form[0].equals("head") && things.hasHead || form[0].equals("span") && things.hasSpan;
            if (!hasAll(form, things) || isAgain && RANDOM.nextInt(3) > 0) {
                continue;
            }
            List<String> part = write(form, things);
            tokens.addAll(part);
            keep(part, things);
        }
        return tokens;
    }

    private static List<String> dayTokens(Things things) {
        List<String> tokens = new ArrayList<>();
        int depth = 0;
        int many = RANDOM.nextInt(4) == 0 ? pick(20, 34) : pick(0, 9);
        boolean isPlain = many > 9;
        for (int k = 0; k < many; k++) {
            String[] form = isPlain && RANDOM.nextInt(5) > 0 ? STEPS.get(7) : any(STEPS);
            form = !isPlain && RANDOM.nextInt(3) == 0 ? STEPS.get(11) : form;
            if (!hasAll(form, things)) {
                continue;
            }
            boolean isBlock = form[0].equals("when") || form[0].equals("loop");
            boolean isWrong = form[0].equals("end") && depth == 0 || isBlock && depth == 3;
            if (isWrong && RANDOM.nextInt(3) > 0) {
                continue;
            }
            tokens.addAll(write(form, things));
            depth += form[0].equals("end") ? -1 : isBlock ? 1 : 0;
        }
        for (int k = 0; k < depth - (RANDOM.nextInt(15) == 0 ? 1 : 0); k++) {
            tokens.addAll(List.of("end", ";"));
        }
        return tokens;
    }

    private static final List<String> ODD = List.of("&", "Head", "12345", "00000", "0", "1", "12", "1440", "9999", ";", "<",
            ">", "=", "abcdefghi", "abcdefgh", "turn", "zz", "end", "-", "\t", "\0", "\u00e9", "\r");

    private static void spoil(List<String> tokens) {
        if (tokens.isEmpty()) {
            return;
        }
        int at = RANDOM.nextInt(tokens.size());
        switch (RANDOM.nextInt(8)) {
            case 0, 1 -> tokens.remove(at);
            case 2 -> tokens.add(at, any(ODD));
            case 3 -> tokens.set(at, any(ODD));
            case 4 -> tokens.add(at, any(KEYWORDS));
            case 5 -> tokens.add(at, any(tokens));
            case 6 -> {
                int to = Math.min(tokens.size(), at + pick(1, 5));
                tokens.subList(at, to).clear();
            }
            default -> tokens.set(at, any(tokens));
        }
    }

    /** Blanks where TOKENS would run together, and some where they may be. */
    private static String join(List<String> tokens) {
        StringBuilder text = new StringBuilder();
        for (String token : tokens) {
            char last = text.length() == 0 ? ';' : text.charAt(text.length() - 1);
            char first = token.charAt(0);
            boolean runs = first >= 'a' && first <= 'z' && last >= 'a' && last <= 'z'
                    || first >= '0' && first <= '9' && last >= '0' && last <= '9';
            if (runs && RANDOM.nextInt(200) > 0 || RANDOM.nextInt(8) == 0) {
                text.append(RANDOM.nextInt(5) == 0 ? "\n" : RANDOM.nextInt(5) == 0 ? "  " : " ");
            }
            text.append(token);
        }
        return text.toString();
    }

    // ---- the runs

    private static void check(String text, boolean isDays, Things things, Things fresh) {
        read(text, isDays, isDays ? things : fresh);
        int n = feed(text);
        long got = isDays ? x.days(n) : x.valley(n);
        String call = (isDays ? "days: " : "valley: ") + text.replace("\n", "\\n");
        if (fault == 0) {
            gives(call, got, isDays ? steps : fresh.fields.size());
        } else {
            refused(call, got, 9);
        }
        due("fault of " + call, x.fault(0), fault);
        due("place in " + call, x.fault(1), place);
    }

    private static final String VALLEY = "head 9 ; span 8 begins 7 ; reach a loses 1 in 2 ; "
            + "reach b of a loses 0 in 12 carries 3 shut 4 to 5 ; owner o ; reach c loses 2 in 3 shut 4 to 5 ; "
            + "field x on b shares 6 needs 7 by o ; field y on a shares 1 needs 2 ;";
    private static final String DAYS = "shut a ; swap x y ; lend y x 9 ; when owes x < 7 ; pay y x ; end ; when shut b ; "
            + "flow 5 ; loop 3 ; dry 4 ; pass ; end ; end ; when rich y > 0 ; open c ; end ; stop ;";

    /** Every TOKEN and every few TOKENS of a text left out, told twice, changed with the next, or another one put in. */
    private static void everyChange(String whole, boolean isDays) {
        List<String> tokens = List.of(whole.split(" "));
        List<String> others = new ArrayList<>(KEYWORDS);
        others.addAll(ODD);
        others.addAll(List.of("a", "o", "x", "y"));
        for (int at = 0; at < tokens.size(); at++) {
            for (int to = at + 1; to <= Math.min(tokens.size(), at + 7); to++) {
                List<String> without = new ArrayList<>(tokens);
                without.subList(at, to).clear();
                oneChange(without, isDays);
                List<String> twice = new ArrayList<>(tokens);
                twice.addAll(to, tokens.subList(at, to));
                oneChange(twice, isDays);
            }
            List<String> turned = new ArrayList<>(tokens);
            turned.add(Math.min(at + 1, tokens.size() - 1), turned.remove(at));
            oneChange(turned, isDays);
            for (String other : others) {
                List<String> more = new ArrayList<>(tokens);
                more.add(at, other);
                oneChange(more, isDays);
                more.remove(at + 1);
                oneChange(more, isDays);
            }
        }
    }

    private static void oneChange(List<String> tokens, boolean isDays) {
        begin("a change");
        Things things = new Things();
        check(VALLEY, false, null, things);
        String text = String.join(" ", tokens);
        if (text.length() <= (isDays ? 300 : 900)) {
            check(text, isDays, things, new Things());
        }
    }

    public static void main(String[] args) {
        everyChange(VALLEY, false);
        everyChange(DAYS, true);
        int runs = args.length > 0 ? Integer.parseInt(args[0]) : 4000;
        int[] seen = new int[8];
        for (int run = 0; run < runs; run++) {
            begin("run " + run);
            Things things = new Things();
            for (int k = 0; k < 5; k++) {
                boolean isDays = k % 2 == 1;
                List<String> tokens = isDays ? dayTokens(things) : valleyTokens();
                for (int spoilt = RANDOM.nextInt(3); spoilt > 0 && k > 0; spoilt--) {
                    spoil(tokens);
                }
                String text = join(tokens);
                if (text.length() > (isDays ? 300 : 900)) {
                    continue;
                }
                Things fresh = new Things();
                check(text, isDays, things, fresh);
                if (!isDays && fault == 0) {
                    things = fresh;
                }
                seen[fault]++;
            }
        }
        for (int kind = 0; kind < seen.length; kind++) {
            due("texts with FAULT " + kind + " enough", seen[kind] > runs / 50 ? 1 : 0, 1);
        }
        finish("the rows tell the same FAULTS");
    }
}
