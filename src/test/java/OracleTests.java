import java.util.ArrayList;
import java.util.HashSet;
import java.util.List;
import java.util.Random;
import java.util.Set;

/**
 * Compares the class with slow and plain second answers: a machine of sets for the grammar, all ways tried for
 * the sizes, and a writer that looks back over all that it wrote. The seed is fixed, so each run is the same.
 */
public final class OracleTests {
    private static final Random RANDOM = new Random(20261116);
    private static int wrong = 0;

    private static final int[] STEPS = {25, 17, 11, 27, 19, 10, 26};
    private static final int[] KINDS = {36, 4, 32, 0};
    private static final int[] RESTS = {13, 37, 39, 45};
    private static final int[] OCTAVES = {8, 24, 56, 16, 40, 48, 32};
    private static final int[] SIGNS = {41, 35, 33};
    private static final int[] INTERVALS = {12, 44, 60, 20, 52, 18, 36};
    private static final int END = -1;

    private static void fault(String text) {
        wrong++;
        if (wrong < 20) {
            System.out.println(text);
        }
    }

    private static int find(int[] table, int c) {
        for (int i = 0; i < table.length; i++) {
            if (table[i] == c) {
                return i;
            }
        }
        return -1;
    }

    private static boolean isNoteCell(int c) {
        for (int k : KINDS) {
            for (int s : STEPS) {
                if (s + k == c) {
                    return true;
                }
            }
        }
        return false;
    }

    // ---- the grammar, as a machine that is in a set of states

    private enum At { START, HAND, BAR, ITEM, SIZE1, SIZE2, SIZED, OPEN1, OPENED, SIGNED, OCTAVE, BODY, INTERVAL_SIGN,
        TIE1, TIED, SLURRED, CLOSE1, CLOSED, VOICE1, REPEATED }

    private record State(At at, boolean open, boolean first, boolean note, int dots, int intervals) {
        State to(At next) {
            return new State(next, open, first, note, dots, intervals);
        }
    }

    private static void add(Set<State> to, boolean goes, State s) {
        if (goes) {
            to.add(s);
        }
    }

    /** What may begin an item, from a given part of it on. */
    private static void beginItem(Set<State> to, State s, int c, boolean size, boolean open) {
        add(to, size && (c == 24 || c == 32), s.to(At.SIZE1));
        add(to, open && c == 48 && !s.open, s.to(At.OPEN1));
        add(to, find(RESTS, c) >= 0, new State(At.BODY, s.open, s.first, false, 0, 0));
        add(to, find(SIGNS, c) >= 0, s.to(At.SIGNED));
        headItem(to, s, c, true);
    }

    private static void headItem(Set<State> to, State s, int c, boolean octave) {
        add(to, octave && find(OCTAVES, c) >= 0, s.to(At.OCTAVE));
        add(to, isNoteCell(c), new State(At.BODY, s.open, s.first, true, 0, 0));
    }

    private static void behindItem(Set<State> to, State s, int c) {
        beginItem(to, s, c, true, true);
        add(to, c == 0 || c == 64, new State(At.BAR, s.open, false, false, 0, 0));
        add(to, c == 35 && !s.open, s.to(At.VOICE1));
    }

    private static void behindBody(Set<State> to, State s, int c) {
        boolean atBody = s.at == At.BODY;
        add(to, atBody && s.intervals == 0 && s.dots < 2 && c == 4,
            new State(At.BODY, s.open, s.first, s.note, s.dots + 1, 0));
        add(to, atBody && s.note && s.intervals < 4 && find(SIGNS, c) >= 0, s.to(At.INTERVAL_SIGN));
        add(to, atBody && s.note && s.intervals < 4 && find(INTERVALS, c) >= 0,
            new State(At.BODY, s.open, s.first, true, s.dots, s.intervals + 1));
        add(to, atBody && s.note && c == 8, s.to(At.TIE1));
        add(to, (atBody || s.at == At.TIED) && c == 9 && !s.open, s.to(At.SLURRED));
        add(to, s.at != At.CLOSED && c == 24 && s.open, s.to(At.CLOSE1));
        behindItem(to, s, c);
    }

    private static void step(Set<State> to, State s, int c) {
        switch (s.at) {
            case START:
                add(to, c == 40 || c == 56, s.to(At.HAND));
                beginItem(to, s, c, true, true);
                break;
            case HAND:
                add(to, c == 28, s.to(At.BAR));
                break;
            case BAR:
                add(to, c == 54 && !s.first && !s.open, s.to(At.REPEATED));
                beginItem(to, s, c, true, true);
                break;
            case ITEM: beginItem(to, s, c, true, true); break;
            case SIZE1: add(to, c == 35, s.to(At.SIZE2)); break;
            case SIZE2: add(to, c == 2, s.to(At.SIZED)); break;
            case SIZED: beginItem(to, s, c, false, true); break;
            case OPEN1: add(to, c == 3, new State(At.OPENED, true, s.first, false, 0, 0)); break;
            case OPENED: beginItem(to, s, c, false, false); break;
            case SIGNED: headItem(to, s, c, true); break;
            case OCTAVE: headItem(to, s, c, false); break;
            case INTERVAL_SIGN:
                add(to, find(INTERVALS, c) >= 0, new State(At.BODY, s.open, s.first, true, s.dots, s.intervals + 1));
                break;
            case TIE1: add(to, c == 9, s.to(At.TIED)); break;
            case CLOSE1: add(to, c == 6, new State(At.CLOSED, false, s.first, s.note, 0, 0)); break;
            case VOICE1: add(to, c == 28, s.to(At.ITEM)); break;
            case REPEATED: add(to, c == 0 || c == 64, new State(At.BAR, s.open, false, false, 0, 0)); break;
            default: behindBody(to, s, c); break;
        }
    }

    private static boolean mayEnd(State s) {
        boolean behind = s.at == At.BODY || s.at == At.TIED || s.at == At.SLURRED || s.at == At.CLOSED
            || s.at == At.REPEATED;
        return behind && !s.open;
    }

    /** The place of the first cell with which no music goes on, by the grammar alone; END without. */
    private static int grammarFault(List<Integer> row) {
        Set<State> now = new HashSet<>();
        now.add(new State(At.START, false, true, false, 0, 0));
        for (int i = 0; i < row.size(); i++) {
            Set<State> next = new HashSet<>();
            for (State s : now) {
                step(next, s, row.get(i));
            }
            if (next.isEmpty()) {
                return i;
            }
            now = next;
        }
        for (State s : now) {
            if (mayEnd(s)) {
                return END;
            }
        }
        return row.size();
    }

    // ---- music made at random, with what is due

    private static final class Item {
        int bar, voice, pitch, sign, kind, size = -1, dots, tied, slurred;
        int octaveTold;
        int told = -1;
        boolean open, close, slur;
        final List<Integer> intervals = new ArrayList<>();

        int lasts(int itsSize, int length) {
            if (itsSize == 2) {
                return length;
            }
            int base = (itsSize == 0 ? 512 : 32) >> kind;
            return dots == 0 ? base : dots == 1 ? base + base / 2 : base + base * 3 / 4;
        }
    }

    private static boolean wantsBehind(int from, int to) {
        int apart = Math.abs(from - to);
        return apart > 4 || (apart > 2 && from / 7 != to / 7);
    }

    /** All ways tried: the sizes that are due for the items, or null. */
    private static int[] sizesDue(List<Item> voice, int length) {
        int n = voice.size();
        int[] best = null;
        int bestUnlike = 0;
        for (int way = 0; way < 1 << n; way++) {
            int[] sizes = new int[n];
            int sum = 0;
            int unlike = 0;
            boolean asTold = true;
            for (int i = 0; i < n; i++) {
                sizes[i] = way >> (n - 1 - i) & 1;
                asTold &= voice.get(i).told < 0 || voice.get(i).told == sizes[i];
                sum += voice.get(i).lasts(sizes[i], length);
                unlike += i > 0 && sizes[i] != sizes[i - 1] ? 1 : 0;
            }
            // Ways come in the order of LARGE first, so a later one must be better.
            if (asTold && sum == length && (best == null || unlike < bestUnlike)) {
                best = sizes;
                bestUnlike = unlike;
            }
        }
        return best;
    }

    private static int waysDue(List<Item> voice, int length) {
        int found = 0;
        for (int way = 0; way < 1 << voice.size(); way++) {
            int sum = 0;
            for (int i = 0; i < voice.size(); i++) {
                sum += voice.get(i).lasts(way >> i & 1, length);
            }
            found += sum == length ? 1 : 0;
        }
        return Math.min(found, 2);
    }

    private static final int[][] METERS = {{4, 4}, {3, 4}, {2, 4}, {1, 16}, {3, 16}, {5, 16}, {6, 8}, {1, 4}, {4, 1}};

    /** Items that together may be as long as the bar; often they are. */
    private static List<Item> randomVoice(int length) {
        List<Item> voice = new ArrayList<>();
        int left = length;
        boolean small = RANDOM.nextInt(3) == 0;
        for (int n = 0; n < 11 && left > 0; n++) {
            Item it = new Item();
            for (int tries = 0; tries < 12; tries++) {
                small ^= RANDOM.nextInt(6) == 0;
                it.kind = RANDOM.nextInt(4);
                it.dots = RANDOM.nextInt(5) == 0 ? 1 + RANDOM.nextInt(2) : 0;
                it.size = small ? 1 : 0;
                if (it.lasts(it.size, length) <= left) {
                    break;
                }
            }
            it.pitch = RANDOM.nextInt(4) == 0 ? 0 : 7 + RANDOM.nextInt(49);
            left -= it.lasts(it.size, length);
            voice.add(it);
        }
        return voice;
    }

    private static boolean isWhole(List<Item> voice, int length) {
        int sum = 0;
        for (Item it : voice) {
            sum += it.lasts(it.size, length);
        }
        return sum == length;
    }

    private static List<Item> wholeVoice(int length) {
        for (int tries = 0; tries < 200; tries++) {
            List<Item> voice = randomVoice(length);
            if (isWhole(voice, length)) {
                return voice;
            }
        }
        Item rest = new Item();
        rest.size = 2;
        List<Item> voice = new ArrayList<>();
        voice.add(rest);
        return voice;
    }

    // ---- reading: a row made of tokens, and what it means by the document

    private static final class Told {
        final List<Integer> row = new ArrayList<>();
        final List<Item> items = new ArrayList<>();
        int fault = END;
        int bars;
        int hand;
        /** Pitches, and 0 for all behind which a note wants an octave sign. */
        final List<Integer> past = new ArrayList<>();
        boolean open;

        void put(int... cells) {
            for (int c : cells) {
                row.add(c);
            }
        }

        void faultAt(int place) {
            if (fault == END) {
                fault = place;
            }
        }
    }

    private static int nearest(int from, int step) {
        for (int octave = 0; octave <= 8; octave++) {
            if (!wantsBehind(from, octave * 7 + step)) {
                return octave * 7 + step;
            }
        }
        return -100;
    }

    private static void tellNote(Told t, Item it) {
        it.sign = RANDOM.nextInt(4) == 0 ? 1 + RANDOM.nextInt(3) : 0;
        if (it.sign > 0) {
            t.put(SIGNS[it.sign - 1]);
        }
        int before = t.past.get(t.past.size() - 1);
        boolean wanted = before == 0 || wantsBehind(before, it.pitch);
        boolean told = wanted ? RANDOM.nextInt(60) != 0 : RANDOM.nextInt(8) == 0;
        if (told) {
            t.put(OCTAVES[it.pitch / 7 - 1]);
        } else if (before == 0) {
            t.faultAt(t.row.size());
        } else {
            int pitch = nearest(before, it.pitch % 7);
            if (pitch < 7 || pitch > 55) {
                t.faultAt(t.row.size());
            } else {
                it.pitch = pitch;
            }
        }
        t.past.add(it.pitch);
        t.put(STEPS[it.pitch % 7] + KINDS[it.kind]);
    }

    private static void tellIntervals(Told t, Item it) {
        int count = RANDOM.nextInt(4) == 0 ? RANDOM.nextInt(5) : 0;
        for (int k = 0; k < count; k++) {
            int sign = RANDOM.nextInt(3) == 0 ? 1 + RANDOM.nextInt(3) : 0;
            int number = 2 + RANDOM.nextInt(7);
            if (sign > 0) {
                t.put(SIGNS[sign - 1]);
            }
            int pitch = t.hand == 2 ? it.pitch + number - 1 : it.pitch - number + 1;
            if (pitch < 7 || pitch > 55) {
                t.faultAt(t.row.size());
            }
            t.put(INTERVALS[number - 2]);
            it.intervals.add(number + 16 * sign);
        }
    }

    private static void tellItem(Told t, Item it, boolean mayClose) {
        if (!t.open && RANDOM.nextInt(12) == 0) {
            it.open = true;
            t.open = true;
            t.put(48, 3);
        }
        if (it.pitch == 0) {
            t.put(RESTS[it.kind]);
        } else {
            tellNote(t, it);
        }
        for (int d = 0; d < it.dots; d++) {
            t.put(4);
        }
        if (it.pitch != 0) {
            tellIntervals(t, it);
            if (RANDOM.nextInt(6) == 0) {
                it.tied = 1;
                t.put(8, 9);
            }
        }
        boolean close = t.open && (mayClose || RANDOM.nextInt(5) == 0);
        if (close) {
            t.put(24, 6);
            t.open = false;
        } else if (t.open) {
            it.slurred = 1;
        } else if (RANDOM.nextInt(8) == 0) {
            it.slurred = 1;
            t.put(9);
        }
    }

    private static void tellVoice(Told t, List<Item> voice, int length, boolean closes) {
        boolean signs = RANDOM.nextInt(3) == 0;
        int last = -1;
        boolean anySign = false;
        for (int i = 0; i < voice.size(); i++) {
            Item it = voice.get(i);
            it.bar = t.bars;
            if (signs && it.size != 2 && (it.size != last || RANDOM.nextInt(6) == 0) && RANDOM.nextInt(3) > 0) {
                t.put(it.size == 0 ? 24 : 32, 35, 2);
                last = it.size;
                anySign = true;
            }
            it.told = anySign ? last : -1;
            tellItem(t, it, closes && i == voice.size() - 1);
            t.items.add(it);
        }
        Item one = voice.get(0);
        if (voice.size() == 1 && one.pitch == 0 && one.kind == 0 && one.dots == 0 && !anySign) {
            one.size = 2;
            return;
        }
        int[] sizes = sizesDue(voice, length);
        if (sizes == null) {
            t.faultAt(t.row.size());
            return;
        }
        for (int i = 0; i < sizes.length; i++) {
            voice.get(i).size = sizes[i];
        }
    }

    private static Told randomTold(int length) {
        Told t = new Told();
        t.hand = RANDOM.nextInt(3);
        if (t.hand > 0) {
            t.put(t.hand == 1 ? 40 : 56, 28);
        }
        t.past.add(0);
        int bars = 1 + RANDOM.nextInt(6);
        for (t.bars = 0; t.bars < bars; t.bars++) {
            if (t.bars > 0) {
                boolean line = RANDOM.nextInt(4) == 0;
                t.put(line ? 64 : 0);
                if (line) {
                    t.past.add(0);
                }
                if (!t.open && RANDOM.nextInt(5) == 0) {
                    t.put(54);
                    t.past.add(0);
                    continue;
                }
            }
            int voices = RANDOM.nextInt(4) == 0 ? 2 + RANDOM.nextInt(2) : 1;
            for (int v = 0; v < voices; v++) {
                if (v > 0) {
                    t.put(35, 28);
                    t.past.add(0);
                }
                List<Item> voice = RANDOM.nextInt(15) == 0 ? randomVoice(length) : wholeVoice(length);
                for (Item it : voice) {
                    it.voice = v;
                }
                tellVoice(t, voice, length, v < voices - 1 || t.bars >= bars - 2);
            }
            if (voices > 1) {
                t.past.add(0);
            }
        }
        return t;
    }

    private static Counted withRow(int[] meter, List<Integer> row) {
        Counted x = new Counted();
        x.meter(meter[0], meter[1]);
        for (int c : row) {
            x.cell(c);
        }
        return x;
    }

    private static String itemsOf(Counted x) {
        StringBuilder text = new StringBuilder();
        for (int i = 0; i < x.told(1); i++) {
            for (int what = 0; what < 15; what++) {
                text.append(x.item(i, what)).append(' ');
            }
            text.append('|');
        }
        return text.toString();
    }

    private static String itemsOf(List<Item> items, int length) {
        StringBuilder text = new StringBuilder();
        for (Item it : items) {
            int pitch = it.pitch == 0 ? -1 : it.pitch;
            int[] told = {it.bar, it.voice, pitch, it.sign, it.kind, it.size, it.dots, it.lasts(it.size, length),
                it.tied, it.slurred, it.intervals.size()};
            for (int n : told) {
                text.append(n).append(' ');
            }
            for (int k = 0; k < 4; k++) {
                text.append(k < it.intervals.size() ? it.intervals.get(k) : 0).append(' ');
            }
            text.append('|');
        }
        return text.toString();
    }

    private static void readsAsTold() {
        int good = 0;
        for (int n = 0; n < 4000; n++) {
            int[] meter = METERS[RANDOM.nextInt(METERS.length)];
            int length = 512 * meter[0] / meter[1];
            Told t = randomTold(length);
            Counted x = withRow(meter, t.row);
            int grammar = grammarFault(t.row);
            if (grammar != END) {
                fault("the oracle's own row has a fault at " + grammar + ": " + t.row);
            }
            int got = x.read();
            int want = t.fault == END ? t.bars : -10 - t.fault;
            if (got != want) {
                fault("read answered " + got + ", due is " + want + " of " + t.row + " in " + length);
            } else if (got > 0) {
                good++;
                String items = itemsOf(t.items, length);
                if (!itemsOf(x).equals(items)) {
                    fault("items of " + t.row + " in " + length + "\n " + itemsOf(x) + "\n " + items);
                }
                if (x.told(4) != t.hand) {
                    fault("hand of " + t.row);
                }
            }
            spoil(meter, t.row);
        }
        if (good < 1000) {
            fault("only " + good + " rows were good");
        }
    }

    /** With a cell changed the fault is where the grammar has it, or ahead of that for what it means. */
    private static void spoil(int[] meter, List<Integer> told) {
        for (int n = 0; n < 6; n++) {
            List<Integer> row = new ArrayList<>(told);
            int i = RANDOM.nextInt(row.size());
            switch (RANDOM.nextInt(3)) {
                case 0: row.set(i, RANDOM.nextInt(65)); break;
                case 1: row.remove(i); break;
                default: row.add(i, told.get(RANDOM.nextInt(told.size()))); break;
            }
            int grammar = grammarFault(row);
            int got = withRow(meter, row).read();
            if (got >= 0) {
                if (grammar != END) {
                    fault("read answered " + got + ", but the grammar has a fault at " + grammar + ": " + row);
                }
                continue;
            }
            int place = -10 - got;
            if (place == grammar) {
                continue;
            }
            boolean ahead = place >= 0 && place <= row.size() && (grammar == END || place < grammar);
            if (!ahead || !mayMeanWrong(row, place)) {
                fault("read answered " + got + ", the grammar's fault is " + grammar + ": " + row);
            }
        }
    }

    private static boolean mayMeanWrong(List<Integer> row, int place) {
        int c = place < row.size() ? row.get(place) : END;
        int next = place + 1 < row.size() ? row.get(place + 1) : END;
        boolean voiceEnds = c == END || c == 0 || c == 64 || (c == 35 && next == 28);
        boolean fourthVoice = place >= 2 && row.get(place - 1) == 28 && row.get(place - 2) == 35;
        return voiceEnds || isNoteCell(c) || find(INTERVALS, c) >= 0 || fourthVoice;
    }

    // ---- writing: music made by calls, and its cells by the document

    private static List<List<List<Item>>> randomMusic(int length) {
        List<List<List<Item>>> bars = new ArrayList<>();
        int count = 1 + RANDOM.nextInt(8);
        for (int b = 0; b < count; b++) {
            List<List<Item>> voices = new ArrayList<>();
            int many = b > 0 && RANDOM.nextInt(6) == 0 ? 0 : RANDOM.nextInt(5) == 0 ? 2 + RANDOM.nextInt(2) : 1;
            for (int v = 0; v < many; v++) {
                voices.add(wholeVoice(length));
            }
            bars.add(voices);
        }
        return bars;
    }

    private static void make(Counted x, List<List<List<Item>>> bars, int hand) {
        boolean slurring = false;
        for (List<List<Item>> voices : bars) {
            x.bar(voices.isEmpty());
            for (int v = 0; v < voices.size(); v++) {
                if (v > 0) {
                    x.voice();
                }
                for (Item it : voices.get(v)) {
                    it.bar = x.told(0) - 1;
                    it.voice = v;
                    makeItem(x, it, hand);
                    slurring ^= RANDOM.nextInt(6) == 0;
                    it.slurred = slurring ? 1 : 0;
                    x.slur(x.told(1) - 1, slurring);
                }
            }
        }
    }

    private static void makeItem(Counted x, Item it, int hand) {
        if (it.pitch == 0) {
            x.rest(it.kind, it.size, it.dots);
            return;
        }
        it.sign = RANDOM.nextInt(4) == 0 ? RANDOM.nextInt(4) : 0;
        x.note(it.pitch, it.sign, it.kind, it.size, it.dots);
        int count = RANDOM.nextInt(4) == 0 ? RANDOM.nextInt(5) : 0;
        for (int k = 0; k < count; k++) {
            int number = 2 + RANDOM.nextInt(7);
            int sign = RANDOM.nextInt(4);
            int pitch = hand == 2 ? it.pitch + number - 1 : it.pitch - number + 1;
            int want = pitch < 7 || pitch > 55 ? -3 : it.intervals.size() + 1;
            if (x.interval(number, sign) != want) {
                fault("interval " + number + " of " + it.pitch + " with hand " + hand);
            }
            if (want > 0) {
                it.intervals.add(number + 16 * sign);
            }
        }
        it.tied = RANDOM.nextInt(6) == 0 ? 1 : 0;
        x.tie(it.tied == 1);
    }

    private static boolean signedDue(List<Item> voice, int length) {
        Item one = voice.get(0);
        if (voice.size() == 1 && one.pitch == 0 && one.kind == 0 && one.dots == 0) {
            return one.size != 2;
        }
        for (Item it : voice) {
            it.told = -1;
        }
        int[] sizes = sizesDue(voice, length);
        for (int i = 0; i < sizes.length; i++) {
            if (sizes[i] != voice.get(i).size) {
                return true;
            }
        }
        return false;
    }

    private static void markSlurs(List<List<List<Item>>> bars) {
        // All that stands in the music, one behind the other: items, "voice" and "repeated".
        List<Object> things = new ArrayList<>();
        for (List<List<Item>> voices : bars) {
            if (voices.isEmpty()) {
                things.add("repeated");
            }
            for (int v = 0; v < voices.size(); v++) {
                if (v > 0) {
                    things.add("voice");
                }
                things.addAll(voices.get(v));
            }
        }
        List<Item> row = new ArrayList<>();
        boolean broken = false;
        for (Object thing : things) {
            if (!(thing instanceof Item it)) {
                broken |= !row.isEmpty();
                continue;
            }
            row.add(it);
            it.open = false;
            it.close = false;
            it.slur = it.slurred == 1;
            if (it.slurred == 1) {
                continue;
            }
            if (row.size() >= 5 && !broken) {
                row.forEach(each -> each.slur = false);
                row.get(0).open = true;
                it.close = true;
            }
            row.clear();
            broken = false;
        }
    }

    private static void putBar(Told t, List<List<Item>> voices, int length) {
        if (voices.isEmpty()) {
            t.put(54);
            t.past.add(0);
        }
        for (int v = 0; v < voices.size(); v++) {
            if (v > 0) {
                t.put(35, 28);
                t.past.add(0);
            }
            boolean signs = signedDue(voices.get(v), length);
            int size = -1;
            for (Item it : voices.get(v)) {
                if (signs && it.size != size) {
                    t.put(it.size == 0 ? 24 : 32, 35, 2);
                    size = it.size;
                }
                putItem(t, it);
            }
        }
        if (voices.size() > 1) {
            t.past.add(0);
        }
    }

    private static void putItem(Told t, Item it) {
        if (it.open) {
            t.put(48, 3);
        }
        if (it.sign > 0) {
            t.put(SIGNS[it.sign - 1]);
        }
        if (it.pitch > 0) {
            int before = t.past.get(t.past.size() - 1);
            if (before == 0 || wantsBehind(before, it.pitch)) {
                t.put(OCTAVES[it.pitch / 7 - 1]);
            }
            t.past.add(it.pitch);
        }
        t.put(it.pitch == 0 ? RESTS[it.kind] : STEPS[it.pitch % 7] + KINDS[it.kind]);
        for (int d = 0; d < it.dots; d++) {
            t.put(4);
        }
        for (int told : it.intervals) {
            if (told >= 16) {
                t.put(SIGNS[told / 16 - 1]);
            }
            t.put(INTERVALS[told % 16 - 2]);
        }
        if (it.tied == 1) {
            t.put(8, 9);
        }
        if (it.slur) {
            t.put(9);
        }
        if (it.close) {
            t.put(24, 6);
        }
    }

    /** The fault of the answer is -10 less the first bar that is too long. */
    private static Told writtenDue(List<List<List<Item>>> bars, int hand, int width, int length) {
        Told done = new Told();
        done.past.add(0);
        if (hand > 0) {
            done.put(hand == 1 ? 40 : 56, 28);
        }
        for (int b = 0; b < bars.size(); b++) {
            Told behind = new Told();
            behind.past.addAll(done.past);
            putBar(behind, bars.get(b), length);
            int line = done.row.size() - 1 - done.row.lastIndexOf(64);
            if (b > 0 && line + 1 + behind.row.size() > width) {
                done.put(64);
                behind = new Told();
                behind.past.addAll(done.past);
                behind.past.add(0);
                putBar(behind, bars.get(b), length);
                line = 0;
            } else if (b > 0) {
                done.put(0);
            }
            if (line + behind.row.size() > width) {
                done.fault = b;
                return done;
            }
            done.row.addAll(behind.row);
            done.past.clear();
            done.past.addAll(behind.past);
        }
        return done;
    }

    private static List<Integer> rowOf(Counted x) {
        List<Integer> row = new ArrayList<>();
        for (int i = 0; i < x.told(3); i++) {
            row.add(x.at(i));
        }
        return row;
    }

    private static void writesAsTold() {
        int tooLong = 0;
        for (int n = 0; n < 3000; n++) {
            int[] meter = METERS[RANDOM.nextInt(METERS.length)];
            Counted x = new Counted();
            int length = x.meter(meter[0], meter[1]);
            int hand = RANDOM.nextInt(3);
            x.hand(hand);
            List<List<List<Item>>> bars = randomMusic(length);
            make(x, bars, hand);
            markSlurs(bars);
            compareVoices(x, bars, length);
            int width = RANDOM.nextBoolean() ? 12 + RANDOM.nextInt(30) : 12 + RANDOM.nextInt(189);
            Told due = writtenDue(bars, hand, width, length);
            List<Integer> before = rowOf(x);
            int got = x.write(width);
            if (due.fault != END) {
                tooLong++;
                if (got != -10 - due.fault || !rowOf(x).equals(before)) {
                    fault("write(" + width + ") answered " + got + ", bar " + due.fault + " is too long");
                }
                continue;
            }
            if (got != due.row.size() || !rowOf(x).equals(due.row)) {
                fault("write(" + width + ") made " + rowOf(x) + "\n due is " + due.row);
            }
            readsAgain(x, bars.size());
        }
        if (tooLong < 50 || tooLong > 2000) {
            fault("too long were " + tooLong);
        }
    }

    private static void compareVoices(Counted x, List<List<List<Item>>> bars, int length) {
        for (int b = 0; b < bars.size(); b++) {
            for (int v = 0; v < bars.get(b).size(); v++) {
                List<Item> voice = bars.get(b).get(v);
                int ways = voice.get(0).size == 2 ? 1 : waysDue(voice, length);
                if (x.ways(b, v) != ways) {
                    fault("ways answered " + x.ways(b, v) + ", due is " + ways);
                }
                int signed = signedDue(voice, length) ? 1 : 0;
                if (x.signed(b, v) != signed) {
                    fault("signed answered " + x.signed(b, v) + ", due is " + signed);
                }
            }
        }
    }

    private static void readsAgain(Counted x, int bars) {
        String items = itemsOf(x);
        int hand = x.told(4);
        if (x.read() != bars || !itemsOf(x).equals(items) || x.told(4) != hand) {
            fault("what was written is read as other music: " + rowOf(x));
        }
    }

    public static void main(String[] args) {
        readsAsTold();
        writesAsTold();
        System.out.println(wrong == 0 ? "all answers are as due" : wrong + " answers are not as due");
        if (wrong != 0) {
            System.exit(1);
        }
    }
}
