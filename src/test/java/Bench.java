import java.lang.reflect.InvocationTargetException;
import java.lang.reflect.Method;
import java.lang.reflect.Modifier;
import java.util.ArrayList;
import java.util.Arrays;
import java.util.Comparator;
import java.util.List;
import java.util.function.Supplier;
import java.util.function.ToIntFunction;

/**
 * What the tests share. Rows of cells are told as in the document, by their dots: "46 345" is RIGHT, "_" is a
 * BLANK, "/" ends a line. Where a test needs an object more than once it tells how it is made.
 */
class Bench {
    static final int NONE = -1, RANGE = -2, STATE = -3, FULL = -4;
    static final int LOW = Integer.MIN_VALUE, HIGH = Integer.MAX_VALUE;

    private static final int MOST_TOLD = 40;
    private static int wrong = 0;
    private static String test = "";

    // ---- answers that are due

    static void fault(String text) {
        wrong++;
        if (wrong <= MOST_TOLD) {
            System.out.println(test + ": " + text);
        }
    }

    static void due(String what, int got, int want) {
        if (got != want) {
            fault(what + " answered " + got + ", due is " + want);
        }
    }

    static void dueText(String what, String got, String want) {
        if (!got.equals(want)) {
            fault(what + "\n  answered " + shortened(got) + "\n  due is   " + shortened(want));
        }
    }

    private static String shortened(String text) {
        return text.length() > 600 ? text.substring(0, 600) + " .." : text;
    }

    /** A call that is refused, behind which all is as if it had not been made. */
    static void dueRefused(String what, Supplier<Counted> made, ToIntFunction<Counted> call, int want) {
        due(what, call.applyAsInt(made.get()), want);
        Supplier<Counted> behind = () -> {
            Counted x = made.get();
            call.applyAsInt(x);
            return x;
        };
        dueText(what + ": what there is behind it", look(behind), look(made));
    }

    // ---- rows

    static List<Integer> cells(String told) {
        List<Integer> cells = new ArrayList<>();
        for (String word : told.trim().split("\\s+")) {
            if (!word.isEmpty()) {
                cells.add(cellOf(word));
            }
        }
        return cells;
    }

    private static int cellOf(String word) {
        if (word.equals("/")) {
            return 64;
        }
        int c = 0;
        for (char dot : word.toCharArray()) {
            c += dot == '_' ? 0 : 1 << (dot - '1');
        }
        return c;
    }

    static String dots(int c) {
        if (c == 64) {
            return "/";
        }
        StringBuilder text = new StringBuilder();
        for (int d = 0; d < 6; d++) {
            if ((c >> d & 1) == 1) {
                text.append(d + 1);
            }
        }
        return c == 0 ? "_" : text.toString();
    }

    static String times(int n, String told) {
        StringBuilder text = new StringBuilder();
        for (int i = 0; i < n; i++) {
            text.append(told).append(' ');
        }
        return text.toString();
    }

    /** The row is what is told then; by eights, for a row of 4000 cells must be had by 512 calls. */
    static void fill(Counted x, String told) {
        x.cut(0);
        List<Integer> cells = cells(told);
        for (int from = 0; from < cells.size(); from += 8) {
            long bytes = 0;
            for (int c : cells.subList(from, Math.min(from + 8, cells.size()))) {
                bytes = bytes << 8 | (64 + c);
            }
            x.more(bytes);
        }
    }

    static Counted withRow(String told) {
        return inMeter(4, 4, told);
    }

    static Counted inMeter(int up, int down) {
        Counted x = new Counted();
        x.meter(up, down);
        return x;
    }

    static Counted inMeter(int up, int down, String told) {
        Counted x = inMeter(up, down);
        fill(x, told);
        return x;
    }

    /** Music that a row tells. */
    static Counted reading(int up, int down, String told) {
        Counted x = inMeter(up, down, told);
        int bars = x.read();
        if (bars < 1) {
            fault("read answered " + bars + " of " + shortened(told));
        }
        return x;
    }

    static Counted reading(String told) {
        return reading(4, 4, told);
    }

    static Counted fullRow() {
        Counted x = new Counted();
        for (int i = 0; i < 500; i++) {
            x.more(0x4142434445464748L);
        }
        return x;
    }

    /** Of 600 items: 15 bars of forty, in a meter of 10 4. */
    static String sixHundred() {
        return times(14, times(40, "134") + "_") + times(40, "134").trim();
    }

    // ---- what there is

    /** All that can be asked of an object, and what it would answer to each call that could come next. */
    static String look(Supplier<Counted> made) {
        StringBuilder text = new StringBuilder();
        Counted x = made.get();
        lookAtBars(x, text);
        lookAtItems(x, text);
        lookAtRow(x, text);
        lookAhead(made, text);
        return text.toString();
    }

    private static void lookAtBars(Counted x, StringBuilder text) {
        int bars = x.told(0);
        text.append(bars).append(" bars of ").append(x.told(2)).append(", hand ").append(x.told(4));
        text.append(", last voice ").append(x.told(5)).append(", loose ").append(x.loose()).append(':');
        for (int b = 0; b < bars; b++) {
            for (int n = 0; n < 3; n++) {
                text.append(' ').append(x.barOf(b, n)).append(' ').append(x.ways(b, n)).append(' ').append(x.signed(b, n));
            }
        }
    }

    private static void lookAtItems(Counted x, StringBuilder text) {
        int items = x.told(1);
        text.append("; ").append(items).append(" items:");
        for (int i = 0; i < items; i++) {
            for (int what = 0; what < 15; what++) {
                text.append(' ').append(x.item(i, what));
            }
        }
    }

    private static void lookAtRow(Counted x, StringBuilder text) {
        text.append("; the row: ").append(rowOf(x)).append("; next:");
    }

    private static void lookAhead(Supplier<Counted> made, StringBuilder text) {
        List<ToIntFunction<Counted>> next = List.of(
            x -> x.cell(5), x -> x.more(0x4142L), Counted::read, x -> x.meter(3, 8), x -> x.hand(0), x -> x.hand(2),
            x -> x.bar(false), x -> x.bar(true), Counted::voice, x -> x.note(28, 0, 3, 1, 0), x -> x.rest(0, 2, 0),
            x -> x.interval(2, 0), x -> x.tie(true), x -> x.write(12), x -> x.write(60), x -> x.write(200));
        for (ToIntFunction<Counted> call : next) {
            text.append(' ').append(call.applyAsInt(made.get()));
        }
    }

    /** One thing of all items. */
    static String all(Counted x, int what) {
        StringBuilder text = new StringBuilder();
        int items = x.told(1);
        for (int i = 0; i < items; i++) {
            text.append(i == 0 ? "" : " ").append(x.item(i, what));
        }
        return text.toString();
    }

    static String rowOf(Counted x) {
        StringBuilder text = new StringBuilder();
        int cells = x.told(3);
        for (int i = 0; i < cells; i++) {
            text.append(i == 0 ? "" : " ").append(dots(x.at(i)));
        }
        return text.toString();
    }

    static void dueWritten(Counted x, int width, String want) {
        due("write(" + width + ")", x.write(width), cells(want).size());
        dueText("write(" + width + ")", rowOf(x), String.join(" ", want.trim().split("\\s+")));
    }

    static void dueRead(String told, int want) {
        dueRead(4, 4, told, want);
    }

    static void dueRead(int up, int down, String told, int want) {
        due("read in " + up + " " + down + " of " + shortened(told), inMeter(up, down, told).read(), want);
    }

    static void dueFault(String told, int place) {
        dueRead(told, -10 - place);
    }

    static void dueFault(int up, int down, String told, int place) {
        dueRead(up, down, told, -10 - place);
    }

    // ---- running

    /** Runs each test of a class: its methods that are named after a promise (p07_..) or a term (t3_..). */
    static void runAll(Class<?> tests) {
        Method[] methods = tests.getDeclaredMethods();
        Arrays.sort(methods, Comparator.comparing(Method::getName));
        int count = 0;
        for (Method m : methods) {
            if (m.getName().matches("p[0-9][0-9]_.*|t[0-9]_.*") && Modifier.isStatic(m.getModifiers())) {
                count++;
                runOne(m);
            }
        }
        end(count + " tests");
    }

    private static void runOne(Method m) {
        test = m.getName();
        try {
            m.setAccessible(true);
            m.invoke(null);
        } catch (InvocationTargetException e) {
            fault("threw " + e.getCause());
        } catch (IllegalAccessException e) {
            fault("can not be run");
        }
    }

    static void named(String name) {
        test = name;
    }

    static void end(String what) {
        System.out.println(wrong == 0 ? what + ": all answers are as due"
            : what + ": " + wrong + " answers are not as due");
        if (wrong != 0) {
            System.exit(1);
        }
    }
}
