/** Music in cells of six dots: rows of cells are read as bars, and bars that were made are written as cells. */
public final class BrailleCells {
    public static final int NONE = -1, RANGE = -2, STATE = -3, FULL = -4;

    private static final int FAULT_BASE = -10;

    private static final int ROW_LIMIT = 4000, BAR_LIMIT = 60, VOICE_LIMIT = 3;
    private static final int ITEM_LIMIT = 600, VOICE_ITEM_LIMIT = 40, INTERVAL_LIMIT = 4, DOT_LIMIT = 2;

    private static final int FIRST_LENGTH = 512, LENGTH_LIMIT = 2048;
    private static final int LOWEST = 7, HIGHEST = 55, STEPS = 7;
    private static final int NO_PITCH = 0;
    private static final int UNTOLD = -1, LARGE = 0, SMALL = 1, BAR_REST = 2;
    private static final int RIGHT = 1, LEFT = 2;

    private static final int BLANK = 0, LINE_END = 64;
    private static final int DOT_CELL = 4, SLUR_CELL = 9, REPEATED_CELL = 54;
    private static final int RIGHT_FIRST = 40, LEFT_FIRST = 56, HAND_SECOND = 28;
    private static final int VOICE_FIRST = 35, VOICE_SECOND = 28;
    private static final int TIE_FIRST = 8, TIE_SECOND = 9;
    private static final int OPEN_FIRST = 48, OPEN_SECOND = 3;
    private static final int CLOSE_FIRST = 24, CLOSE_SECOND = 6;
    private static final int LARGE_FIRST = 24, SMALL_FIRST = 32, SIZE_SECOND = 35, SIZE_THIRD = 2;

    /** Dots 3 and 6 of a note cell tell its kind, the others its step. */
    private static final int KIND_DOTS = 36, STEP_DOTS = 27;
    private static final int[] STEP_CELLS = {25, 17, 11, 27, 19, 10, 26};
    private static final int[] KIND_CELLS = {36, 4, 32, 0};
    private static final int[] REST_CELLS = {13, 37, 39, 45};
    private static final int[] OCTAVE_CELLS = {8, 24, 56, 16, 40, 48, 32};
    private static final int[] SIGN_CELLS = {41, 35, 33};
    private static final int[] INTERVAL_CELLS = {12, 44, 60, 20, 52, 18, 36};

    /** A large item lasts this many times as long as a small one. */
    private static final int LARGE_TIMES = 16;
    private static final int[] KIND_LENGTHS = {8, 4, 2, 1};
    private static final int[] DOT_TIMES = {4, 6, 7};

    private Row row;
    private Row spareRow;
    private Music music;
    private Music spareMusic;
    private final Sizer sizer;
    private final RowReader reader;
    private final RowWriter writer;

    public BrailleCells() {
        row = new Row();
        spareRow = new Row();
        music = new Music();
        spareMusic = new Music();
        sizer = new Sizer();
        reader = new RowReader(sizer);
        writer = new RowWriter(sizer);
    }

    public void clear() {
        row.count = 0;
        music.empty(FIRST_LENGTH);
    }

    // ---- the row

    public int cell(int c) {
        if (c < 0 || c > LINE_END) {
            return RANGE;
        }
        if (row.count >= ROW_LIMIT) {
            return FULL;
        }
        row.put(c);
        return row.count;
    }

    public int more(long row) {
        int coming = 0;
        for (int shift = 56; shift >= 0; shift -= 8) {
            int b = byteOf(row, shift);
            if (b != 0 && (b < 64 || b > 128)) {
                return RANGE;
            }
            coming += b == 0 ? 0 : 1;
        }
        if (this.row.count + coming > ROW_LIMIT) {
            return FULL;
        }
        for (int shift = 56; shift >= 0; shift -= 8) {
            int b = byteOf(row, shift);
            if (b != 0) {
                this.row.put(b - 64);
            }
        }
        return this.row.count;
    }

    private static int byteOf(long bytes, int shift) {
        return (int) ((bytes >>> shift) & 255L);
    }

    public int cut(int n) {
        if (n < 0 || n > row.count) {
            return RANGE;
        }
        int gone = row.count - n;
        row.count = n;
        return gone;
    }

    public int at(int i) {
        return row.get(i);
    }

    public int read() {
        spareMusic.empty(music.length);
        int answer = reader.run(row, spareMusic);
        if (answer >= 0) {
            Music old = music;
            music = spareMusic;
            spareMusic = old;
        }
        return answer;
    }

    // ---- making

    public int meter(int up, int down) {
        boolean downIsTold = down == 1 || down == 2 || down == 4 || down == 8 || down == 16;
        if (up < 1 || up > 16 || !downIsTold) {
            return RANGE;
        }
        int length = 512 * up / down;
        if (length > LENGTH_LIMIT) {
            return RANGE;
        }
        if (music.bars > 0) {
            return STATE;
        }
        music.length = length;
        return length;
    }

    public int hand(int h) {
        if (h < 0 || h > LEFT) {
            return RANGE;
        }
        if (!music.suitsHand(h)) {
            return STATE;
        }
        int old = music.hand;
        music.hand = h;
        return old;
    }

    public int bar(boolean repeated) {
        if (!music.endsWhole() || (repeated && music.bars == 0)) {
            return STATE;
        }
        return music.startBar(repeated) ? music.bars - 1 : FULL;
    }

    public int voice() {
        int slot = music.lastSlot();
        if (slot < 0 || !music.isWhole(slot)) {
            return STATE;
        }
        return music.startVoice() ? music.voicesOf[music.bars - 1] - 1 : FULL;
    }

    public int note(int pitch, int sign, int kind, int size, int dots) {
        if (!isPitch(pitch) || !isSign(sign) || !isKind(kind) || !isDots(dots)) {
            return RANGE;
        }
        if (size != LARGE && size != SMALL) {
            return RANGE;
        }
        return addTimed(pitch, sign, kind, size, dots);
    }

    public int rest(int kind, int size, int dots) {
        if (!isKind(kind) || size < LARGE || size > BAR_REST || !isDots(dots)) {
            return RANGE;
        }
        if (size == BAR_REST && (kind != 0 || dots != 0)) {
            return RANGE;
        }
        return addTimed(NO_PITCH, 0, kind, size, dots);
    }

    private int addTimed(int pitch, int sign, int kind, int size, int dots) {
        int slot = music.lastSlot();
        if (slot < 0) {
            return STATE;
        }
        // A bar rest fills its voice, so that nothing fits behind one, and one fits only an empty voice.
        int lasting = size == BAR_REST ? music.length : lengthOf(kind, size, dots);
        if (music.voiceLasts(slot) + lasting > music.length) {
            return STATE;
        }
        if (music.itemsOf[slot] >= VOICE_ITEM_LIMIT || music.items >= ITEM_LIMIT) {
            return FULL;
        }
        return music.addItem(pitch, sign, kind, size, dots);
    }

    public int interval(int n, int sign) {
        if (n < 2 || n > 8 || !isSign(sign)) {
            return RANGE;
        }
        int last = music.items - 1;
        if (last < 0 || !music.isNote(last) || !isPitch(music.intervalPitch(last, n, music.hand))) {
            return STATE;
        }
        if (music.intervalsOf[last] >= INTERVAL_LIMIT) {
            return FULL;
        }
        music.addInterval(n, sign);
        return music.intervalsOf[last];
    }

    public int tie(boolean is) {
        int last = music.items - 1;
        if (last < 0 || !music.isNote(last)) {
            return STATE;
        }
        int old = music.tied[last];
        music.tied[last] = is ? 1 : 0;
        return old;
    }

    public int slur(int item, boolean is) {
        if (item < 0 || item >= music.items) {
            return NONE;
        }
        int old = music.slurred[item];
        music.slurred[item] = is ? 1 : 0;
        return old;
    }

    // ---- writing

    public int write(int width) {
        if (width < 12 || width > 200) {
            return RANGE;
        }
        if (music.bars == 0 || !music.endsWhole()) {
            return STATE;
        }
        int answer = writer.run(music, spareRow, width);
        if (answer >= 0) {
            Row old = row;
            row = spareRow;
            spareRow = old;
        }
        return answer;
    }

    public int wants(int from, int to) {
        if (!isPitch(from) || !isPitch(to)) {
            return RANGE;
        }
        return OctaveWatch.isLeap(from, to) ? 1 : 0;
    }

    public int ways(int bar, int voice) {
        int slot = music.slotOf(bar, voice);
        if (slot < 0) {
            return NONE;
        }
        return sizer.countWays(music, slot);
    }

    public int signed(int bar, int voice) {
        int slot = music.slotOf(bar, voice);
        if (slot < 0) {
            return NONE;
        }
        if (!music.isWhole(slot)) {
            return STATE;
        }
        return sizer.needsSigns(music, slot) ? 1 : 0;
    }

    // ---- what there is

    public int barOf(int bar, int what) {
        if (bar < 0 || bar >= music.bars) {
            return NONE;
        }
        switch (what) {
            case 0: return music.voicesOf[bar];
            case 1: return music.itemsOfBar(bar) == 0 ? NONE : music.firstOf[bar * VOICE_LIMIT];
            case 2: return music.itemsOfBar(bar);
            default: return RANGE;
        }
    }

    public int item(int item, int what) {
        if (item < 0 || item >= music.items) {
            return NONE;
        }
        switch (what) {
            case 0: return music.barAt[item];
            case 1: return music.voiceAt[item];
            case 2: return music.isNote(item) ? music.pitch[item] : NONE;
            case 3: return music.sign[item];
            case 4: return music.kind[item];
            case 5: return music.size[item];
            case 6: return music.dots[item];
            case 7: return music.lasts(item);
            case 8: return music.tied[item];
            case 9: return music.slurred[item];
            case 10: return music.intervalsOf[item];
            case 11: case 12: case 13: case 14: return music.intervalAt(item, what - 11);
            default: return RANGE;
        }
    }

    public int loose() {
        int count = 0;
        for (int i = 0; i < music.items; i++) {
            boolean meets = i + 1 < music.items && music.pitch[i + 1] == music.pitch[i];
            if (music.tied[i] == 1 && !meets) {
                count++;
            }
        }
        return count;
    }

    public int told(int what) {
        switch (what) {
            case 0: return music.bars;
            case 1: return music.items;
            case 2: return music.length;
            case 3: return row.count;
            case 4: return music.hand;
            case 5: return music.lastSlot() < 0 ? 0 : music.voiceLasts(music.lastSlot());
            default: return RANGE;
        }
    }

    // ---- numbers and cells

    private static boolean isPitch(int pitch) {
        return pitch >= LOWEST && pitch <= HIGHEST;
    }

    private static boolean isSign(int sign) {
        return sign >= 0 && sign <= SIGN_CELLS.length;
    }

    private static boolean isKind(int kind) {
        return kind >= 0 && kind < KIND_CELLS.length;
    }

    private static boolean isDots(int dots) {
        return dots >= 0 && dots <= DOT_LIMIT;
    }

    private static int lengthOf(int kind, int size, int dots) {
        if (kind < 0 || kind >= KIND_LENGTHS.length || dots < 0 || dots >= DOT_TIMES.length) {
            return 0;
        }
        return KIND_LENGTHS[kind] * DOT_TIMES[dots] * (size == LARGE ? LARGE_TIMES : 1);
    }

    private static int cellAt(int[] table, int index) {
        return index >= 0 && index < table.length ? table[index] : BLANK;
    }

    private static int indexIn(int[] table, int value) {
        for (int i = 0; i < table.length; i++) {
            if (table[i] == value) {
                return i;
            }
        }
        return NONE;
    }

    /** THE ROW; one that is being written may count past its room, for then it is refused as a whole. */
    private static final class Row {
        final int[] cells = new int[ROW_LIMIT];
        int count;

        void put(int c) {
            if (count < ROW_LIMIT) {
                cells[count] = c;
            }
            count++;
        }

        int get(int i) {
            return i >= 0 && i < count && i < ROW_LIMIT ? cells[i] : NONE;
        }
    }

    /** Bars, voices and items. A SLOT is the place of a voice: its bar times three and its number there. */
    private static final class Music {
        int length = FIRST_LENGTH;
        int hand;
        int bars;
        int items;
        final int[] voicesOf = new int[BAR_LIMIT];
        final int[] firstOf = new int[BAR_LIMIT * VOICE_LIMIT];
        final int[] itemsOf = new int[BAR_LIMIT * VOICE_LIMIT];
        final int[] barAt = new int[ITEM_LIMIT];
        final int[] voiceAt = new int[ITEM_LIMIT];
        final int[] pitch = new int[ITEM_LIMIT];
        final int[] sign = new int[ITEM_LIMIT];
        final int[] kind = new int[ITEM_LIMIT];
        final int[] size = new int[ITEM_LIMIT];
        final int[] dots = new int[ITEM_LIMIT];
        final int[] tied = new int[ITEM_LIMIT];
        final int[] slurred = new int[ITEM_LIMIT];
        final int[] intervalsOf = new int[ITEM_LIMIT];
        final int[] intervals = new int[ITEM_LIMIT * INTERVAL_LIMIT];

        void empty(int newLength) {
            length = newLength;
            hand = 0;
            bars = 0;
            items = 0;
        }

        /** The bar's first voice is started, too, unless it is repeated. */
        boolean startBar(boolean repeated) {
            if (bars >= BAR_LIMIT) {
                return false;
            }
            voicesOf[bars] = 0;
            bars++;
            return repeated || startVoice();
        }

        boolean startVoice() {
            int last = bars - 1;
            if (last < 0 || voicesOf[last] >= VOICE_LIMIT) {
                return false;
            }
            int slot = last * VOICE_LIMIT + voicesOf[last];
            firstOf[slot] = items;
            itemsOf[slot] = 0;
            voicesOf[last]++;
            return true;
        }

        int slotOf(int bar, int voice) {
            if (bar < 0 || bar >= bars || voice < 0 || voice >= voicesOf[bar]) {
                return NONE;
            }
            return bar * VOICE_LIMIT + voice;
        }

        /** NONE without bars, and if the last one is repeated. */
        int lastSlot() {
            int last = bars - 1;
            return last < 0 || voicesOf[last] == 0 ? NONE : last * VOICE_LIMIT + voicesOf[last] - 1;
        }

        int addItem(int newPitch, int newSign, int newKind, int newSize, int newDots) {
            int slot = lastSlot();
            if (slot < 0 || items >= ITEM_LIMIT) {
                return NONE;
            }
            barAt[items] = bars - 1;
            voiceAt[items] = voicesOf[bars - 1] - 1;
            pitch[items] = newPitch;
            sign[items] = newSign;
            kind[items] = newKind;
            size[items] = newSize;
            dots[items] = newDots;
            tied[items] = 0;
            slurred[items] = 0;
            intervalsOf[items] = 0;
            itemsOf[slot]++;
            items++;
            return items - 1;
        }

        /** An interval more of the last item. */
        void addInterval(int number, int itsSign) {
            int last = items - 1;
            if (last < 0 || intervalsOf[last] >= INTERVAL_LIMIT) {
                return;
            }
            intervals[last * INTERVAL_LIMIT + intervalsOf[last]] = number + 16 * itsSign;
            intervalsOf[last]++;
        }

        int intervalAt(int item, int index) {
            return index >= 0 && index < intervalsOf[item] ? intervals[item * INTERVAL_LIMIT + index] : 0;
        }

        int intervalPitch(int item, int number, int byHand) {
            return byHand == LEFT ? pitch[item] + number - 1 : pitch[item] - number + 1;
        }

        boolean suitsHand(int newHand) {
            for (int i = 0; i < items; i++) {
                for (int k = 0; k < intervalsOf[i]; k++) {
                    if (!isPitch(intervalPitch(i, intervalAt(i, k) & 15, newHand))) {
                        return false;
                    }
                }
            }
            return true;
        }

        boolean isNote(int item) {
            return pitch[item] != NO_PITCH;
        }

        int lasts(int item) {
            return size[item] == BAR_REST ? length : lengthOf(kind[item], size[item], dots[item]);
        }

        int voiceLasts(int slot) {
            int sum = 0;
            for (int i = firstOf[slot]; i < firstOf[slot] + itemsOf[slot]; i++) {
                sum += lasts(i);
            }
            return sum;
        }

        boolean isWhole(int slot) {
            return voiceLasts(slot) == length;
        }

        /** Only the last voice of all may be other than whole. */
        boolean endsWhole() {
            int slot = lastSlot();
            return slot < 0 || isWhole(slot);
        }

        int itemsOfBar(int bar) {
            int sum = 0;
            for (int v = 0; v < voicesOf[bar]; v++) {
                sum += itemsOf[bar * VOICE_LIMIT + v];
            }
            return sum;
        }

        /** Without size signs such a voice is read as a bar rest. */
        boolean isLoneWholeRest(int slot) {
            int first = firstOf[slot];
            return itemsOf[slot] == 1 && !isNote(first) && kind[first] == 0 && dots[first] == 0;
        }
    }

    /** Which octave a note is in by the one before it, and whether it has to tell that. */
    private static final class OctaveWatch {
        int last = LOWEST;
        boolean fresh = true;

        static boolean isLeap(int from, int to) {
            int apart = Math.abs(from - to);
            if (apart <= 2) {
                return false;
            }
            return apart > 4 || from / STEPS != to / STEPS;
        }

        /** From here on the next note wants a sign. */
        void forget() {
            fresh = true;
        }

        void heard(int pitch) {
            last = pitch;
            fresh = false;
        }

        /** Only behind a bar of one voice the octave is still known. */
        void enterBar(Music music, int bar) {
            boolean behindOneVoice = bar > 0 && bar <= music.bars && music.voicesOf[bar - 1] == 1;
            if (!behindOneVoice) {
                forget();
            }
        }

        boolean needsSign(int pitch) {
            return fresh || isLeap(last, pitch);
        }

        /** The one pitch of a step that is no leap; it may be none that a note can have. */
        int nearest(int step) {
            int same = last / STEPS * STEPS + step;
            if (!isLeap(last, same)) {
                return same;
            }
            return same > last ? same - STEPS : same + STEPS;
        }
    }

    /**
     * Finds sizes with which a voice is whole. A large item lasts 15 times its small length more than a small
     * one, so what must be added to all small lengths is 15 times a sum of at most LENGTH_LIMIT / 15.
     */
    private static final class Sizer {
        private static final int EXTRA = LARGE_TIMES - 1;
        private static final int SUMS = LENGTH_LIMIT / EXTRA + 1;
        private static final int LAYER = SUMS * 2;
        private static final int IMPOSSIBLE = 1000;

        final int[] chosen = new int[VOICE_ITEM_LIMIT];
        private final int[] small = new int[VOICE_ITEM_LIMIT];
        private int count;
        /** By item, sum still to reach and size of the item: the least number of unlike neighbours from there on. */
        private final int[] least = new int[(VOICE_ITEM_LIMIT + 1) * LAYER];
        private final int[] found = new int[SUMS];

        /** Chooses sizes for the first items of a voice, those behind them being told. */
        boolean settle(Music music, int slot, int untold) {
            int first = music.firstOf[slot];
            int left = music.length;
            for (int i = untold; i < music.itemsOf[slot]; i++) {
                left -= music.lasts(first + i);
            }
            int sum = load(music, first, untold, left);
            if (sum < 0) {
                return false;
            }
            int next = untold < music.itemsOf[slot] ? music.size[first + untold] : UNTOLD;
            layEnd(sum, next);
            for (int i = count - 1; i >= 0; i--) {
                layItem(i, sum);
            }
            return choose(sum);
        }

        /** The sum that the small lengths of the large items must have; NONE if there can be none. */
        private int load(Music music, int first, int items, int length) {
            count = Math.min(items, VOICE_ITEM_LIMIT);
            int extra = length;
            for (int i = 0; i < count; i++) {
                small[i] = lengthOf(music.kind[first + i], SMALL, music.dots[first + i]);
                extra -= small[i];
            }
            boolean fits = extra >= 0 && extra % EXTRA == 0 && extra / EXTRA < SUMS;
            return fits ? extra / EXTRA : NONE;
        }

        private void layEnd(int sum, int next) {
            for (int s = 0; s <= sum; s++) {
                for (int size = LARGE; size <= SMALL; size++) {
                    boolean goes = s == 0 && (next == UNTOLD || next == size);
                    least[count * LAYER + s * 2 + size] = goes ? 0 : IMPOSSIBLE;
                }
            }
        }

        private void layItem(int i, int sum) {
            for (int s = 0; s <= sum; s++) {
                int at = i * LAYER + s * 2;
                least[at + LARGE] = s < small[i] ? IMPOSSIBLE : leastBehind(i + 1, s - small[i], LARGE);
                least[at + SMALL] = leastBehind(i + 1, s, SMALL);
            }
        }

        private int leastBehind(int i, int s, int size) {
            int at = i * LAYER + s * 2;
            int alike = least[at + size];
            int unlike = least[at + 1 - size] + 1;
            return alike < unlike ? alike : unlike;
        }

        private boolean choose(int sum) {
            if (Math.min(least[sum * 2 + LARGE], least[sum * 2 + SMALL]) >= IMPOSSIBLE) {
                return false;
            }
            int s = sum;
            int before = UNTOLD;
            for (int i = 0; i < count; i++) {
                int at = i * LAYER + s * 2;
                int asLarge = least[at + LARGE] + (before == SMALL ? 1 : 0);
                int asSmall = least[at + SMALL] + (before == LARGE ? 1 : 0);
                before = asLarge <= asSmall ? LARGE : SMALL;
                chosen[i] = before;
                s = before == LARGE ? Math.max(s - small[i], 0) : s;
            }
            return true;
        }

        /** 0, 1, or 2 for all that is more. */
        int countWays(Music music, int slot) {
            int first = music.firstOf[slot];
            int items = music.itemsOf[slot];
            if (items > 0 && music.size[first] == BAR_REST) {
                return 1;
            }
            int sum = load(music, first, items, music.length);
            if (sum < 0) {
                return 0;
            }
            for (int s = 0; s <= sum; s++) {
                found[s] = s == 0 ? 1 : 0;
            }
            for (int i = 0; i < count; i++) {
                for (int s = sum; s >= small[i]; s--) {
                    found[s] = Math.min(2, found[s] + found[s - small[i]]);
                }
            }
            return found[sum];
        }

        /** Whether a whole voice would be another one, if it were read without LARGE and SMALL. */
        boolean needsSigns(Music music, int slot) {
            int first = music.firstOf[slot];
            if (music.isLoneWholeRest(slot)) {
                return music.size[first] != BAR_REST;
            }
            if (!settle(music, slot, music.itemsOf[slot])) {
                return true;
            }
            for (int i = 0; i < count; i++) {
                if (chosen[i] != music.size[first + i]) {
                    return true;
                }
            }
            return false;
        }
    }

    /** Reads a row into music. Each step that answers false has left the place at the fault. */
    private static final class RowReader {
        private final Sizer sizer;
        private final OctaveWatch watch = new OctaveWatch();
        private Row row;
        private Music music;
        private int place;
        private boolean slurIsOpen;
        private int toldSize;

        RowReader(Sizer sizer) {
            this.sizer = sizer;
        }

        int run(Row source, Music target) {
            row = source;
            music = target;
            place = 0;
            slurIsOpen = false;
            readHand();
            boolean good = beginBar() && readVoice();
            for (int i = 0; i < ROW_LIMIT && good && place < row.count; i++) {
                good = beginNext() && readVoice();
            }
            return good && !slurIsOpen ? music.bars : FAULT_BASE - place;
        }

        private int peek() {
            return row.get(place);
        }

        private boolean sees(int first, int second) {
            return row.get(place) == first && row.get(place + 1) == second;
        }

        private void readHand() {
            if (sees(RIGHT_FIRST, HAND_SECOND) || sees(LEFT_FIRST, HAND_SECOND)) {
                music.hand = peek() == LEFT_FIRST ? LEFT : RIGHT;
                place += 2;
            }
        }

        /** What comes behind a voice, or behind a repeated bar, that is not the last. */
        private boolean beginNext() {
            int c = peek();
            if (c == BLANK || c == LINE_END) {
                place++;
                if (c == LINE_END) {
                    watch.forget();
                }
                return beginBar();
            }
            if (music.lastSlot() < 0 || !sees(VOICE_FIRST, VOICE_SECOND)) {
                return false;
            }
            place += 2;
            watch.forget();
            return music.startVoice();
        }

        private boolean beginBar() {
            watch.enterBar(music, music.bars);
            boolean repeated = peek() == REPEATED_CELL;
            if (repeated && (music.bars == 0 || slurIsOpen)) {
                return false;
            }
            if (!music.startBar(repeated)) {
                return false;
            }
            place += repeated ? 1 : 0;
            return true;
        }

        /** Of a repeated bar there is none to read. */
        private boolean readVoice() {
            int slot = music.lastSlot();
            if (slot < 0) {
                return true;
            }
            toldSize = UNTOLD;
            boolean good = music.items < ITEM_LIMIT && readItem();
            for (int n = 1; n <= VOICE_ITEM_LIMIT && good && !isAtVoiceEnd(); n++) {
                good = n < VOICE_ITEM_LIMIT && music.items < ITEM_LIMIT && readItem();
            }
            return good && endVoice(slot);
        }

        private boolean isAtVoiceEnd() {
            int c = peek();
            return c == BLANK || c == LINE_END || c == NONE || sees(VOICE_FIRST, VOICE_SECOND);
        }

        private boolean endVoice(int slot) {
            if (slurIsOpen && sees(VOICE_FIRST, VOICE_SECOND)) {
                // Its first cell could have been a note's flat.
                place++;
                return false;
            }
            int first = music.firstOf[slot];
            if (music.isLoneWholeRest(slot) && music.size[first] == UNTOLD) {
                music.size[first] = BAR_REST;
                return true;
            }
            int untold = 0;
            while (untold < music.itemsOf[slot] && music.size[first + untold] == UNTOLD) {
                untold++;
            }
            if (!sizer.settle(music, slot, untold)) {
                return false;
            }
            System.arraycopy(sizer.chosen, 0, music.size, first, untold);
            return true;
        }

        private boolean readItem() {
            if (!readSizeSign() || !readOpen()) {
                return false;
            }
            int restKind = indexIn(REST_CELLS, peek());
            if (restKind >= 0) {
                place++;
                music.addItem(NO_PITCH, 0, restKind, toldSize, readDots());
            } else {
                if (!readNote() || !readIntervals()) {
                    return false;
                }
                readTie();
            }
            readSlur();
            return true;
        }

        private boolean readSizeSign() {
            int c = peek();
            if ((c != LARGE_FIRST && c != SMALL_FIRST) || row.get(place + 1) != SIZE_SECOND) {
                return true;
            }
            place += 2;
            if (peek() != SIZE_THIRD) {
                return false;
            }
            place++;
            toldSize = c == LARGE_FIRST ? LARGE : SMALL;
            return true;
        }

        private boolean readOpen() {
            if (!sees(OPEN_FIRST, OPEN_SECOND)) {
                return true;
            }
            if (slurIsOpen) {
                // Its first cell could have been an octave sign.
                place++;
                return false;
            }
            slurIsOpen = true;
            place += 2;
            return true;
        }

        private boolean readNote() {
            int sign = indexIn(SIGN_CELLS, peek()) + 1;
            place += sign > 0 ? 1 : 0;
            int octave = indexIn(OCTAVE_CELLS, peek()) + 1;
            place += octave > 0 ? 1 : 0;
            int c = peek();
            int step = c == NONE ? NONE : indexIn(STEP_CELLS, c & STEP_DOTS);
            if (step < 0 || (octave == 0 && watch.fresh)) {
                return false;
            }
            int pitch = octave > 0 ? octave * STEPS + step : watch.nearest(step);
            if (!isPitch(pitch)) {
                return false;
            }
            watch.heard(pitch);
            place++;
            int kind = indexIn(KIND_CELLS, c & KIND_DOTS);
            return music.addItem(pitch, sign, kind, toldSize, readDots()) != NONE;
        }

        private int readDots() {
            int dots = 0;
            while (dots < DOT_LIMIT && peek() == DOT_CELL) {
                dots++;
                place++;
            }
            return dots;
        }

        private boolean readIntervals() {
            for (int n = 0; n < INTERVAL_LIMIT; n++) {
                int sign = indexIn(SIGN_CELLS, peek()) + 1;
                int ahead = sign > 0 ? 1 : 0;
                int number = indexIn(INTERVAL_CELLS, row.get(place + ahead)) + 2;
                if (number < 2) {
                    // A sign without an interval behind it is that of the next note.
                    return true;
                }
                place += ahead;
                if (!isPitch(music.intervalPitch(music.items - 1, number, music.hand))) {
                    return false;
                }
                place++;
                music.addInterval(number, sign);
            }
            return true;
        }

        private void readTie() {
            int last = music.items - 1;
            if (last >= 0 && sees(TIE_FIRST, TIE_SECOND)) {
                music.tied[last] = 1;
                place += 2;
            }
        }

        private void readSlur() {
            int last = music.items - 1;
            if (last < 0) {
                return;
            }
            if (slurIsOpen && sees(CLOSE_FIRST, CLOSE_SECOND)) {
                slurIsOpen = false;
                place += 2;
            } else if (slurIsOpen) {
                music.slurred[last] = 1;
            } else if (peek() == SLUR_CELL) {
                music.slurred[last] = 1;
                place++;
            }
        }
    }

    /** Writes music, all of whose voices are whole, into a row. */
    private static final class RowWriter {
        private static final int NO_MARK = 0, SLUR_MARK = 1, OPEN_MARK = 2, CLOSE_MARK = 3;
        private static final int SHORTEST_BRACKET = 5;

        private final Sizer sizer;
        private final OctaveWatch watch = new OctaveWatch();
        private final int[] marks = new int[ITEM_LIMIT];
        private final boolean[] hasSigns = new boolean[BAR_LIMIT * VOICE_LIMIT];
        private Row row;
        private Music music;

        RowWriter(Sizer sizer) {
            this.sizer = sizer;
        }

        int run(Music source, Row target, int width) {
            music = source;
            row = target;
            row.count = 0;
            markSlurs();
            markSigns();
            putHand();
            int lineStart = 0;
            for (int b = 0; b < music.bars; b++) {
                int start = row.count;
                if (b > 0) {
                    row.put(BLANK);
                }
                watch.enterBar(music, b);
                putBar(b);
                if (b > 0 && row.count - lineStart > width) {
                    row.count = start;
                    lineStart = start + 1;
                    row.put(LINE_END);
                    watch.forget();
                    putBar(b);
                }
                if (row.count - lineStart > width) {
                    return FAULT_BASE - b;
                }
            }
            return row.count > ROW_LIMIT ? FULL : row.count;
        }

        private void markSigns() {
            for (int b = 0; b < music.bars; b++) {
                for (int v = 0; v < music.voicesOf[b]; v++) {
                    int slot = b * VOICE_LIMIT + v;
                    hasSigns[slot] = sizer.needsSigns(music, slot);
                }
            }
        }

        private void markSlurs() {
            int first = 0;
            for (int i = 0; i < music.items; i++) {
                marks[i] = music.slurred[i] == 1 ? SLUR_MARK : NO_MARK;
                if (music.slurred[i] == 0) {
                    markRow(first, i);
                    first = i + 1;
                }
            }
        }

        /** All items but the last one of such a row are slurred. */
        private void markRow(int first, int last) {
            if (last - first + 1 < SHORTEST_BRACKET || isBroken(first, last)) {
                return;
            }
            for (int i = first; i < last; i++) {
                marks[i] = NO_MARK;
            }
            marks[first] = OPEN_MARK;
            marks[last] = CLOSE_MARK;
        }

        private boolean isBroken(int first, int last) {
            for (int i = first; i < last; i++) {
                int barsOn = music.barAt[i + 1] - music.barAt[i];
                // Bars without items of their own are repeated ones.
                if (barsOn > 1 || (barsOn == 0 && music.voiceAt[i + 1] != music.voiceAt[i])) {
                    return true;
                }
            }
            return false;
        }

        private void putTwo(int first, int second) {
            row.put(first);
            row.put(second);
        }

        private void putHand() {
            if (music.hand != 0) {
                putTwo(music.hand == LEFT ? LEFT_FIRST : RIGHT_FIRST, HAND_SECOND);
            }
        }

        private void putBar(int bar) {
            if (music.voicesOf[bar] == 0) {
                row.put(REPEATED_CELL);
            }
            for (int v = 0; v < music.voicesOf[bar]; v++) {
                if (v > 0) {
                    putTwo(VOICE_FIRST, VOICE_SECOND);
                    watch.forget();
                }
                int slot = bar * VOICE_LIMIT + v;
                for (int n = 0; n < music.itemsOf[slot]; n++) {
                    int item = music.firstOf[slot] + n;
                    if (hasSigns[slot] && (n == 0 || music.size[item] != music.size[item - 1])) {
                        putSize(music.size[item]);
                    }
                    putItem(item);
                }
            }
        }

        private void putSize(int size) {
            putTwo(size == LARGE ? LARGE_FIRST : SMALL_FIRST, SIZE_SECOND);
            row.put(SIZE_THIRD);
        }

        private void putItem(int item) {
            if (marks[item] == OPEN_MARK) {
                putTwo(OPEN_FIRST, OPEN_SECOND);
            }
            if (music.isNote(item)) {
                putNote(item);
            } else {
                row.put(cellAt(REST_CELLS, music.kind[item]));
                putDots(item);
            }
            if (marks[item] == SLUR_MARK) {
                row.put(SLUR_CELL);
            }
            if (marks[item] == CLOSE_MARK) {
                putTwo(CLOSE_FIRST, CLOSE_SECOND);
            }
        }

        private void putNote(int item) {
            int pitch = music.pitch[item];
            putSign(music.sign[item]);
            if (watch.needsSign(pitch)) {
                row.put(cellAt(OCTAVE_CELLS, pitch / STEPS - 1));
            }
            watch.heard(pitch);
            row.put(cellAt(STEP_CELLS, pitch % STEPS) + cellAt(KIND_CELLS, music.kind[item]));
            putDots(item);
            for (int k = 0; k < music.intervalsOf[item]; k++) {
                int told = music.intervalAt(item, k);
                putSign(told >> 4);
                row.put(cellAt(INTERVAL_CELLS, (told & 15) - 2));
            }
            if (music.tied[item] == 1) {
                putTwo(TIE_FIRST, TIE_SECOND);
            }
        }

        private void putSign(int sign) {
            if (sign > 0) {
                row.put(cellAt(SIGN_CELLS, sign - 1));
            }
        }

        private void putDots(int item) {
            for (int d = 0; d < music.dots[item]; d++) {
                row.put(DOT_CELL);
            }
        }
    }
}
