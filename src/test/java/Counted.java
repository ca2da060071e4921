import java.util.ArrayList;
import java.util.List;
import java.util.function.ToIntFunction;

/**
 * An object under test. The document promises nothing behind an object's 512th call, so none is called more often:
 * if a test goes on, a new object takes its place, with which all was done that may have changed the one before.
 */
final class Counted {
    private static final int MOST_CALLS = 512;

    private final List<ToIntFunction<BrailleCells>> done = new ArrayList<>();
    private BrailleCells it = new BrailleCells();
    private int calls;

    private int call(ToIntFunction<BrailleCells> what) {
        if (calls == MOST_CALLS) {
            it = new BrailleCells();
            for (ToIntFunction<BrailleCells> before : done) {
                before.applyAsInt(it);
            }
            calls = done.size();
        }
        if (calls == MOST_CALLS) {
            throw new IllegalStateException("the test asks for something behind the 512th call");
        }
        calls++;
        return what.applyAsInt(it);
    }

    /** A call that only asks. */
    private int ask(ToIntFunction<BrailleCells> what) {
        return call(what);
    }

    /** A call that may change something. */
    private int act(ToIntFunction<BrailleCells> what) {
        int answer = call(what);
        done.add(what);
        return answer;
    }

    void clear() {
        act(x -> {
            x.clear();
            return 0;
        });
    }

    int cell(int c) {
        return act(x -> x.cell(c));
    }

    int more(long row) {
        return act(x -> x.more(row));
    }

    int cut(int n) {
        return act(x -> x.cut(n));
    }

    int at(int i) {
        return ask(x -> x.at(i));
    }

    int read() {
        return act(BrailleCells::read);
    }

    int meter(int up, int down) {
        return act(x -> x.meter(up, down));
    }

    int hand(int h) {
        return act(x -> x.hand(h));
    }

    int bar(boolean repeated) {
        return act(x -> x.bar(repeated));
    }

    int voice() {
        return act(BrailleCells::voice);
    }

    int note(int pitch, int sign, int kind, int size, int dots) {
        return act(x -> x.note(pitch, sign, kind, size, dots));
    }

    int rest(int kind, int size, int dots) {
        return act(x -> x.rest(kind, size, dots));
    }

    int interval(int n, int sign) {
        return act(x -> x.interval(n, sign));
    }

    int tie(boolean is) {
        return act(x -> x.tie(is));
    }

    int slur(int item, boolean is) {
        return act(x -> x.slur(item, is));
    }

    int write(int width) {
        return act(x -> x.write(width));
    }

    int wants(int from, int to) {
        return ask(x -> x.wants(from, to));
    }

    int ways(int bar, int voice) {
        return ask(x -> x.ways(bar, voice));
    }

    int signed(int bar, int voice) {
        return ask(x -> x.signed(bar, voice));
    }

    int barOf(int bar, int what) {
        return ask(x -> x.barOf(bar, what));
    }

    int item(int item, int what) {
        return ask(x -> x.item(item, what));
    }

    int loose() {
        return ask(BrailleCells::loose);
    }

    int told(int what) {
        return ask(x -> x.told(what));
    }
}
