import java.lang.reflect.Array;
import java.lang.reflect.Field;
import java.lang.reflect.Member;
import java.lang.reflect.Modifier;
import java.nio.file.Files;
import java.nio.file.Path;
import java.util.ArrayList;
import java.util.Arrays;
import java.util.IdentityHashMap;
import java.util.List;
import java.util.Map;
import java.util.Random;
import java.util.TreeSet;
import java.util.function.ToIntFunction;
import java.util.regex.Matcher;
import java.util.regex.Pattern;

/**
 * What holds for all calls: none throws, a refused one changes nothing, none makes objects that stay; and the
 * rules of LANGUAGE.md that can be seen from outside or from the text.
 */
public final class FormTests {
    private static int wrong = 0;

    private static void fault(String text) {
        wrong++;
        if (wrong < 20) {
            System.out.println(text);
        }
    }

    // ---- any calls in any state

    private static final int[] EDGES = {Integer.MIN_VALUE, -11, -1, 0, 1, 2, 3, 4, 5, 6, 7, 8, 9, 12, 14, 15, 16, 17,
        28, 31, 39, 40, 55, 56, 60, 63, 64, 65, 199, 200, 201, 600, 4000, Integer.MAX_VALUE};

    private static int any(Random r) {
        return EDGES[r.nextInt(EDGES.length)];
    }

    private static int mostly(Random r, int from, int to) {
        return r.nextInt(12) == 0 ? any(r) : from + r.nextInt(to - from + 1);
    }

    private static long bytes(Random r) {
        long row = 0;
        for (int i = 0; i < 8; i++) {
            row = row << 8 | (r.nextInt(3) == 0 ? 0 : 64 + r.nextInt(r.nextInt(40) == 0 ? 100 : 65));
        }
        return row;
    }

    private static ToIntFunction<BrailleCells> anyCall(Random r) {
        int i = any(r);
        int bar = mostly(r, 0, 3);
        int voice = mostly(r, 0, 2);
        int kind = mostly(r, 0, 3);
        int size = mostly(r, 0, 1);
        int dots = mostly(r, 0, 2);
        boolean is = r.nextInt(3) > 0;
        switch (r.nextInt(26)) {
            case 0: int c = mostly(r, 0, 64); return x -> x.cell(c);
            case 1: long row = r.nextInt(9) == 0 ? r.nextLong() : bytes(r); return x -> x.more(row);
            case 2: return x -> x.cut(bar);
            case 3: int place = mostly(r, 0, 30); return x -> x.at(place);
            case 4: case 5: return BrailleCells::read;
            case 6: int up = mostly(r, 1, 8); int down = 1 << r.nextInt(6); return x -> x.meter(up, down);
            case 7: return x -> x.hand(voice);
            case 8: return x -> x.bar(!is);
            case 9: return BrailleCells::voice;
            case 10: case 11: case 12: int pitch = mostly(r, 7, 55); int sign = mostly(r, 0, 3);
                return x -> x.note(pitch, sign, kind, size, dots);
            case 13: return x -> x.rest(kind, size, dots);
            case 14: return x -> x.rest(0, 2, 0);
            case 15: int number = mostly(r, 2, 8); return x -> x.interval(number, kind);
            case 16: return x -> x.tie(is);
            case 17: int slurred = mostly(r, 0, 8); return x -> x.slur(slurred, is);
            case 18: case 19: int width = mostly(r, 12, 60); return x -> x.write(width);
            case 20: int from = mostly(r, 7, 55); int to = mostly(r, 7, 55); return x -> x.wants(from, to);
            case 21: return x -> x.ways(bar, voice);
            case 22: return x -> x.signed(bar, voice);
            case 23: return x -> x.barOf(bar, voice);
            case 24: int item = mostly(r, 0, 9); int what = mostly(r, 0, 14); return x -> x.item(item, what);
            default: return i > 5 ? BrailleCells::loose : x -> x.told(bar);
        }
    }

    /** Where refused calls change nothing, all others answer the same if they are left out. */
    private static void anyCalls() {
        for (int seed = 0; seed < 600; seed++) {
            Random r = new Random(seed);
            BrailleCells all = new BrailleCells();
            BrailleCells without = new BrailleCells();
            int elements = elementsOf(all);
            for (int n = 0; n < 512; n++) {
                ToIntFunction<BrailleCells> call = anyCall(r);
                int answer = call.applyAsInt(all);
                if (answer >= 0 && answer != call.applyAsInt(without)) {
                    fault("seed " + seed + ", call " + n + " answered " + answer + " behind refused calls alone");
                }
            }
            if (elementsOf(all) != elements) {
                fault("seed " + seed + ": the object grew");
            }
        }
    }

    // ---- how much room an object takes

    private static int elementsOf(Object root) {
        Map<Object, Boolean> seen = new IdentityHashMap<>();
        List<Object> open = new ArrayList<>();
        open.add(root);
        int count = 0;
        while (!open.isEmpty()) {
            Object o = open.remove(open.size() - 1);
            if (seen.put(o, true) != null) {
                continue;
            }
            if (o.getClass().isArray()) {
                count += Array.getLength(o);
                continue;
            }
            for (Field f : o.getClass().getDeclaredFields()) {
                if (Modifier.isStatic(f.getModifiers())) {
                    continue;
                }
                count++;
                Object value = valueOf(f, o);
                if (!f.getType().isPrimitive() && value != null) {
                    open.add(value);
                }
            }
        }
        return count;
    }

    private static Object valueOf(Field f, Object o) {
        try {
            f.setAccessible(true);
            return f.get(o);
        } catch (IllegalAccessException e) {
            return null;
        }
    }

    // ---- the face

    private static final String FACE = "NONE RANGE STATE FULL clear cell more cut at read meter hand bar voice note rest"
        + " interval tie slur write wants ways signed barOf item loose told";

    private static void face() {
        Class<?> c = BrailleCells.class;
        List<Member> members = new ArrayList<>();
        members.addAll(Arrays.asList(c.getDeclaredFields()));
        members.addAll(Arrays.asList(c.getDeclaredMethods()));
        TreeSet<String> open = new TreeSet<>();
        for (Member m : members) {
            if (!Modifier.isPrivate(m.getModifiers()) && !m.isSynthetic()) {
                open.add(m.getName());
            }
        }
        if (!open.equals(new TreeSet<>(Arrays.asList(FACE.split(" "))))) {
            fault("the face is " + open);
        }
        if (!Modifier.isFinal(c.getModifiers()) || c.getDeclaredConstructors().length != 1) {
            fault("the class is not final, or has another constructor");
        }
        for (Class<?> inside : c.getDeclaredClasses()) {
            if (!Modifier.isStatic(inside.getModifiers())) {
                fault(inside + " is not static");
            }
            for (Member m : inside.getDeclaredMethods()) {
                if (Arrays.asList(FACE.split(" ")).contains(m.getName())) {
                    fault(inside + " has a method with a name of the face: " + m.getName());
                }
            }
        }
    }

    // ---- the classes, rules 1, 2, 3, 5 and 11

    private static void classes() {
        List<Class<?>> all = new ArrayList<>(Arrays.asList(BrailleCells.class.getDeclaredClasses()));
        all.add(BrailleCells.class);
        if (all.size() > 12) {
            fault(all.size() + " classes");
        }
        for (Class<?> c : all) {
            if (c != BrailleCells.class && (c.getModifiers() & (Modifier.PUBLIC | Modifier.PROTECTED)) != 0) {
                fault(c + " can be seen from outside");
            }
            fields(c);
        }
    }

    private static void fields(Class<?> c) {
        int own = 0;
        for (Field f : c.getDeclaredFields()) {
            if (!Modifier.isStatic(f.getModifiers())) {
                own++;
            } else if (!f.isSynthetic() && !Modifier.isFinal(f.getModifiers())) {
                fault(f + " is static and not final");
            }
            Class<?> type = f.getType().isArray() ? f.getType().getComponentType() : f.getType();
            if (!type.isPrimitive() && type != String.class && !type.getName().startsWith("BrailleCells")) {
                fault(f + " is of a type that is not told");
            }
        }
        if (own > 20) {
            fault(c + " has " + own + " fields");
        }
    }

    // ---- the text

    private static void text() throws Exception {
        String source = Files.readString(Path.of("src/main/java/BrailleCells.java"));
        String code = source.replaceAll("(?s)/\\*.*?\\*/", "").replaceAll("//[^\n]*", "");
        String[] ruledOut = {"throw", "try", "catch", "synchronized", "assert", "import", "package", "->", "::",
            "System.currentTimeMillis", "System.nanoTime", "Random", "Thread"};
        for (String word : ruledOut) {
            String edge = Character.isLetter(word.charAt(0)) ? "\\b" : "";
            if (Pattern.compile(edge + Pattern.quote(word) + edge).matcher(code).find()) {
                fault("the source has " + word);
            }
        }
        Matcher method = Pattern.compile("(?m)^( +)(?! |new|return|else)[\\w\\[\\] ]+ \\w+\\(([^)]*)\\) \\{\\n(?s:.*?)\\n\\1\\}$")
            .matcher(source);
        int methods = 0;
        while (method.find()) {
            methods++;
            if (method.group().split("\n").length > 60) {
                fault("a long method: " + method.group().split("\n")[0]);
            }
            if (method.group(2).split(",").length > 7) {
                fault("a method with many parameters: " + method.group().split("\n")[0]);
            }
        }
        if (methods < 60) {
            fault("only " + methods + " methods were looked at");
        }
    }

    public static void main(String[] args) throws Exception {
        int room = elementsOf(new BrailleCells());
        if (room > 60000) {
            fault("a new object takes " + room + " fields and elements");
        }
        face();
        classes();
        text();
        anyCalls();
        System.out.println(wrong == 0 ? "all is as due, with " + room + " fields and elements an object"
            : wrong + " things are not as due");
        if (wrong != 0) {
            System.exit(1);
        }
    }
}
