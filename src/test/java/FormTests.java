import java.lang.reflect.Array;
import java.lang.reflect.Field;
import java.lang.reflect.Member;
import java.lang.reflect.Modifier;
import java.nio.file.Files;
import java.nio.file.Path;
import java.util.ArrayList;
import java.util.Arrays;
import java.util.IdentityHashMap;
import java.util.List;
import java.util.Map;
import java.util.Random;
import java.util.TreeSet;
import java.util.regex.Matcher;
import java.util.regex.Pattern;

/**
 * What holds for all calls: none throws, a refused one changes nothing, none makes objects that stay; and the
 * rules of LANGUAGE.md that can be seen from outside or from the text.
 */
public final class FormTests {
    private static int wrong = 0;

    private static void fault(String text) {
        wrong++;
        if (wrong < 20) {
            System.out.println(text);
        }
    }

    // ---- any calls in any state

    private static final int[] EDGES = {Integer.MIN_VALUE, -11, -1, 0, 1, 2, 3, 4, 5, 6, 7, 8, 9, 12, 14, 15, 16, 17,
        28, 31, 39, 40, 55, 56, 60, 63, 64, 65, 199, 200, 201, 600, 4000, Integer.MAX_VALUE};

    private static int any(Random r) {
        return EDGES[r.nextInt(EDGES.length)];
    }

    private static int mostly(Random r, int from, int to) {
        return r.nextInt(12) == 0 ? any(r) : from + r.nextInt(to - from + 1);
    }

    private static long bytes(Random r) {
        long row = 0;
        for (int i = 0; i < 8; i++) {
            row = row << 8 | (r.nextInt(3) == 0 ? 0 : 64 + r.nextInt(r.nextInt(40) == 0 ? 100 : 65));
        }
        return row;
    }

    private static int call(BrailleCells x, Random r) {
        switch (r.nextInt(26)) {
            case 0: return x.cell(mostly(r, 0, 64));
            case 1: return x.more(r.nextInt(9) == 0 ? r.nextLong() : bytes(r));
            case 2: return x.cut(mostly(r, 0, 8));
            case 3: return x.at(mostly(r, 0, 30));
            case 4: case 5: return x.read();
            case 6: return x.meter(mostly(r, 1, 8), 1 << r.nextInt(6));
            case 7: return x.hand(mostly(r, 0, 2));
            case 8: return x.bar(r.nextInt(3) == 0);
            case 9: return x.voice();
            case 10: case 11: case 12:
                return x.note(mostly(r, 7, 55), mostly(r, 0, 3), mostly(r, 0, 3), mostly(r, 0, 1), mostly(r, 0, 2));
            case 13: return x.rest(mostly(r, 0, 3), mostly(r, 0, 1), mostly(r, 0, 2));
            case 14: return x.rest(0, 2, 0);
            case 15: return x.interval(mostly(r, 2, 8), mostly(r, 0, 3));
            case 16: return x.tie(r.nextBoolean());
            case 17: return x.slur(mostly(r, 0, 8), r.nextInt(4) > 0);
            case 18: case 19: return x.write(mostly(r, 12, 60));
            case 20: return x.wants(mostly(r, 7, 55), mostly(r, 7, 55));
            case 21: return x.ways(mostly(r, 0, 3), mostly(r, 0, 2));
            case 22: return x.signed(mostly(r, 0, 3), mostly(r, 0, 2));
            case 23: return x.barOf(mostly(r, 0, 3), mostly(r, 0, 2));
            case 24: return x.item(mostly(r, 0, 9), mostly(r, 0, 14));
            default: return r.nextBoolean() ? x.loose() : x.told(mostly(r, 0, 5));
        }
    }

    private static String state(BrailleCells x) {
        StringBuilder text = new StringBuilder();
        for (int what = 0; what < 6; what++) {
            text.append(x.told(what)).append(' ');
        }
        for (int b = 0; b < x.told(0); b++) {
            text.append('|').append(x.barOf(b, 0)).append(' ').append(x.barOf(b, 1)).append(' ').append(x.barOf(b, 2));
        }
        for (int i = 0; i < x.told(1); i++) {
            for (int what = 0; what < 15; what++) {
                text.append(' ').append(x.item(i, what));
            }
        }
        for (int i = 0; i < x.told(3); i++) {
            text.append(' ').append(x.at(i));
        }
        return text.toString();
    }

    private static void anyCalls() {
        for (int seed = 0; seed < 300; seed++) {
            Random r = new Random(seed);
            BrailleCells x = new BrailleCells();
            int elements = elementsOf(x);
            for (int n = 0; n < 512; n++) {
                String before = state(x);
                int answer = call(x, r);
                if (answer < 0 && !state(x).equals(before)) {
                    fault("seed " + seed + ", call " + n + " was refused with " + answer + ", but changed something");
                }
            }
            if (elementsOf(x) != elements) {
                fault("seed " + seed + ": the object grew");
            }
        }
    }

    // ---- how much room an object takes

    private static int elementsOf(Object root) {
        Map<Object, Boolean> seen = new IdentityHashMap<>();
        List<Object> open = new ArrayList<>();
        open.add(root);
        int count = 0;
        while (!open.isEmpty()) {
            Object o = open.remove(open.size() - 1);
            if (seen.put(o, true) != null) {
                continue;
            }
            if (o.getClass().isArray()) {
                count += Array.getLength(o);
                continue;
            }
            for (Field f : o.getClass().getDeclaredFields()) {
                if (Modifier.isStatic(f.getModifiers())) {
                    continue;
                }
                count++;
                Object value = valueOf(f, o);
                if (!f.getType().isPrimitive() && value != null) {
                    open.add(value);
                }
            }
        }
        return count;
    }

    private static Object valueOf(Field f, Object o) {
        try {
            f.setAccessible(true);
            return f.get(o);
        } catch (IllegalAccessException e) {
            return null;
        }
    }

    // ---- the face

    private static final String FACE = "NONE RANGE STATE FULL clear cell more cut at read meter hand bar voice note rest"
        + " interval tie slur write wants ways signed barOf item loose told";

    private static void face() {
        Class<?> c = BrailleCells.class;
        List<Member> members = new ArrayList<>();
        members.addAll(Arrays.asList(c.getDeclaredFields()));
        members.addAll(Arrays.asList(c.getDeclaredMethods()));
        TreeSet<String> open = new TreeSet<>();
        for (Member m : members) {
            if (!Modifier.isPrivate(m.getModifiers()) && !m.isSynthetic()) {
                open.add(m.getName());
            }
        }
        if (!open.equals(new TreeSet<>(Arrays.asList(FACE.split(" "))))) {
            fault("the face is " + open);
        }
        if (!Modifier.isFinal(c.getModifiers()) || c.getDeclaredConstructors().length != 1) {
            fault("the class is not final, or has another constructor");
        }
        for (Class<?> inside : c.getDeclaredClasses()) {
            if (!Modifier.isStatic(inside.getModifiers())) {
                fault(inside + " is not static");
            }
            for (Member m : inside.getDeclaredMethods()) {
                if (Arrays.asList(FACE.split(" ")).contains(m.getName())) {
                    fault(inside + " has a method with a name of the face: " + m.getName());
                }
            }
        }
    }

    // ---- the text

    private static void text() throws Exception {
        String source = Files.readString(Path.of("src/main/java/BrailleCells.java"));
        String code = source.replaceAll("(?s)/\\*.*?\\*/", "").replaceAll("//[^\n]*", "");
        String[] ruledOut = {"throw", "try", "catch", "synchronized", "assert", "import", "package", "->", "::",
            "System.currentTimeMillis", "System.nanoTime", "Random", "Thread"};
        for (String word : ruledOut) {
            String edge = Character.isLetter(word.charAt(0)) ? "\\b" : "";
            if (Pattern.compile(edge + Pattern.quote(word) + edge).matcher(code).find()) {
                fault("the source has " + word);
            }
        }
        Matcher method = Pattern.compile("(?m)^( +)(?! |new|return|else)[\\w\\[\\] ]+ \\w+\\(([^)]*)\\) \\{\\n(?s:.*?)\\n\\1\\}$")
            .matcher(source);
        int methods = 0;
        while (method.find()) {
            methods++;
            if (method.group().split("\n").length > 60) {
                fault("a long method: " + method.group().split("\n")[0]);
            }
            if (method.group(2).split(",").length > 7) {
                fault("a method with many parameters: " + method.group().split("\n")[0]);
            }
        }
        if (methods < 60) {
            fault("only " + methods + " methods were looked at");
        }
    }

    public static void main(String[] args) throws Exception {
        int room = elementsOf(new BrailleCells());
        if (room > 60000) {
            fault("a new object takes " + room + " fields and elements");
        }
        face();
        text();
        anyCalls();
        System.out.println(wrong == 0 ? "all is as due, with " + room + " fields and elements an object"
            : wrong + " things are not as due");
        if (wrong != 0) {
            System.exit(1);
        }
    }
}
