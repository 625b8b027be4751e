import java.lang.reflect.Constructor;
import java.lang.reflect.Field;
import java.lang.reflect.Method;
import java.lang.reflect.Modifier;
import java.nio.file.Files;
import java.nio.file.Path;
import java.util.ArrayList;
import java.util.List;
import java.util.Set;
import java.util.TreeSet;
import java.util.regex.Matcher;
import java.util.regex.Pattern;

/** The face of the document, and those rules of LANGUAGE.md that a program can look after. */
public final class Rules {
    private static final String FACE = "int status();long top();long bottom();boolean tray(int,int,int);"
            + "boolean write(int,int,long);long read(int,int);boolean pour(int,int,int,int,int);"
            + "int feed(int,int,int,int,int);int valley(int);int days(int);int fault(int);int told(int);"
            + "int reach(int,int);int field(int,int);int below(int);int order(int);int turn(int,int);"
            + "boolean swap(int,int);int lend(int,int,int);int owed(int,int);int slots();int slot(int,int);"
            + "int whose(int);int minutes(int,int);boolean close(int,boolean);boolean head(int);int lets(int,int);"
            + "boolean rate(int);boolean water(int);boolean lost(int);boolean runsOut(int);boolean waterOf(int);"
            + "int lacking(int);int spare(int);int fewest();int neediest();int richest(boolean);int mending();"
            + "boolean off();int driest();int waits(int,int);int headFor(int);int shadow();int bestSwap(int);"
            + "int debts();int balance(int);boolean mean(int,int);int gaps(int,int);int suspects(int);int pass();"
            + "long account(int);int live(int);int lived(int);boolean odds(int,int,int,int);int mark();int back();";
    private static int wrong = 0;

    private static void broken(String what) {
        wrong++;
        System.out.println(what);
    }

    private static String signature(Method m) {
        List<String> types = new ArrayList<>();
        for (Class<?> type : m.getParameterTypes()) {
            types.add(type.getName());
        }
        return m.getReturnType().getName() + " " + m.getName() + "(" + String.join(",", types) + ")";
    }

    private static Set<String> face() {
        Class<?> c = WaterTurns.class;
        Set<String> names = new TreeSet<>();
        Set<String> due = new TreeSet<>(List.of(FACE.split(";")));
        Set<String> found = new TreeSet<>();
        if (!Modifier.isPublic(c.getModifiers()) || !Modifier.isFinal(c.getModifiers())) {
            broken("the class is not public and final");
        }
        for (Method m : c.getDeclaredMethods()) {
            if (Modifier.isPublic(m.getModifiers())) {
                found.add(signature(m));
                names.add(m.getName());
            } else if (!Modifier.isPrivate(m.getModifiers()) && !m.isSynthetic()) {
                broken("a method that is seen: " + m.getName());
            }
        }
        if (!found.equals(due)) {
            broken("the face is " + found + ", due is " + due);
        }
        for (Field f : c.getDeclaredFields()) {
            boolean isNone = f.getName().equals("NONE");
            if (isNone != Modifier.isPublic(f.getModifiers()) || !isNone && !Modifier.isPrivate(f.getModifiers())) {
                broken("a field that is seen: " + f.getName());
            }
        }
        for (Constructor<?> made : c.getDeclaredConstructors()) {
            if (!Modifier.isPublic(made.getModifiers()) || made.getParameterCount() != 0) {
                broken("another constructor");
            }
        }
        return names;
    }

    private static void inside(Set<String> names) {
        Class<?>[] inner = WaterTurns.class.getDeclaredClasses();
        if (inner.length + 1 > 12) {
            broken("more than twelve classes");
        }
        for (Class<?> c : inner) {
            if (!Modifier.isStatic(c.getModifiers()) || Modifier.isPublic(c.getModifiers())) {
                broken("a class inside that is not static, or is public: " + c.getName());
            }
        }
        List<Class<?>> all = new ArrayList<>(List.of(inner));
        all.add(WaterTurns.class);
        for (Class<?> c : all) {
            int own = 0;
            for (Field f : c.getDeclaredFields()) {
                own += Modifier.isStatic(f.getModifiers()) ? 0 : 1;
                if (Modifier.isStatic(f.getModifiers()) && !Modifier.isFinal(f.getModifiers())) {
                    broken("a static field that is not final: " + f.getName());
                }
            }
            if (own > 20) {
                broken("more than twenty fields: " + c.getName());
            }
            for (Method m : c.getDeclaredMethods()) {
                if (c != WaterTurns.class && names.contains(m.getName())) {
                    broken("a method inside with a name of the face: " + m.getName());
                }
                if (m.getParameterCount() > 7) {
                    broken("more than seven parameters: " + m.getName());
                }
            }
        }
    }

    private static void text() throws Exception {
        String source = Files.readString(Path.of("src/main/java/WaterTurns.java"));
        String code = source.replaceAll("\"[^\"\n]*\"", "\"\"").replaceAll("(?s)/\\*.*?\\*/", "")
                .replaceAll("//[^\n]*", "");
        String[] banned = {"\\bthrow\\b", "\\btry\\b", "\\bcatch\\b", "\\bsynchronized\\b", "\\bassert\\b", "->", "::",
            "\\bdouble\\b", "\\bfloat\\b", "Exact\\b", "\\bSystem\\.(?!arraycopy)", "\"\\s*\\+", "\\+\\s*\"",
            "\\bequals\\b", "\\bhashCode\\b", "\\btoString\\b", "\\bpackage\\b", "\\bvar\\b"};
        for (String ban : banned) {
            Matcher m = Pattern.compile(ban).matcher(code);
            if (m.find()) {
                broken("what the rules leave out: " + m.group());
            }
        }
        Matcher imports = Pattern.compile("import ([^;]*);").matcher(code);
        while (imports.find()) {
            if (!imports.group(1).equals("java.util.Arrays")) {
                broken("import of " + imports.group(1));
            }
        }
        int from = -1;
        String[] lines = source.split("\n");
        for (int k = 0; k < lines.length; k++) {
            if (lines[k].matches("( {4}| {8})[a-zA-Z].*\\) \\{")) {
                from = k;
            }
            if (lines[k].matches("( {4}| {8})\\}") && from >= 0) {
                if (k - from > 60) {
                    broken("a long method at line " + (from + 1));
                }
                from = -1;
            }
        }
    }

    public static void main(String[] args) throws Exception {
        inside(face());
        text();
        System.out.println(wrong == 0 ? "the rules are kept" : wrong + " rules are not kept");
        if (wrong != 0) {
            System.exit(1);
        }
    }
}
