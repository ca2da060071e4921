/** The promises of the document one by one, as they are used. */
public final class PromiseTests extends Bench {
    // ---- helpers

    /** All that can be asked of an object. */
    private static String state(Counted x) {
        StringBuilder text = new StringBuilder();
        for (int what = 0; what < 6; what++) {
            text.append(x.told(what)).append(' ');
        }
        for (int b = 0; b < x.told(0); b++) {
            text.append('|').append(x.barOf(b, 0)).append(' ').append(x.barOf(b, 1)).append(' ').append(x.barOf(b, 2));
        }
        for (int what = 0; what < 15; what++) {
            text.append('|').append(all(x, what));
        }
        return text.append('|').append(rowOf(x)).toString();
    }

    private static void notes(Counted x, int count, int pitch, int kind, int size) {
        for (int i = 0; i < count; i++) {
            x.note(pitch, 0, kind, size, 0);
        }
    }

    /** A whole voice of 4 4 with a note and a rest. */
    private static void halves(Counted x, int pitch) {
        x.note(pitch, 0, 1, 0, 0);
        x.rest(1, 0, 0);
    }

    // ---- 1 to 6: the row

    static void p01_newObject() {
        Counted x = new Counted();
        dueText("a new object", state(x), "0 0 512 0 0 0 ||||||||||||||||");
        due("read", x.read(), -10);
        due("write", x.write(40), STATE);
        due("meter", x.meter(4, 4), 512);
    }

    static void p02_clear() {
        Counted x = inMeter(3, 4);
        String fresh = state(new Counted());
        x.hand(2);
        x.bar(false);
        x.note(28, 1, 1, 0, 1);
        x.interval(3, 1);
        x.tie(true);
        x.slur(0, true);
        x.write(40);
        x.clear();
        dueText("clear", state(x), fresh);
        due("the meter can be told again", x.meter(2, 4), 256);
        x.bar(false);
        x.note(28, 0, 1, 0, 0);
        dueText("an item after clear", x.item(0, 3) + " " + x.item(0, 8) + " " + x.item(0, 9) + " " + x.item(0, 10)
            + " " + x.item(0, 11), "0 0 0 0 0");
    }

    /** What was there before must not show behind what is there now. */
    static void p02_clearLeavesNothing() {
        Counted x = new Counted();
        x.bar(false);
        for (int i = 0; i < 4; i++) {
            x.note(50, 0, 2, 0, 0);
            x.interval(8, 0);
            x.tie(true);
        }
        x.voice();
        x.rest(0, 2, 0);
        x.bar(false);
        x.rest(0, 2, 0);
        x.clear();
        x.bar(false);
        due("ways of an empty voice", x.ways(0, 0), 0);
        due("no second voice", x.ways(0, 1), NONE);
        due("no second bar", x.ways(1, 0), NONE);
        due("no second bar", x.signed(1, 0), NONE);
        due("no items", x.barOf(0, 2), 0);
        due("no intervals", x.hand(2), 0);
        due("no ties", x.loose(), 0);
        x.note(50, 0, 2, 0, 0);
        due("no ties", x.loose(), 0);
        x.tie(true);
        due("no next item", x.loose(), 1);
        due("no intervals", x.hand(0), 2);
        x.note(50, 0, 1, 0, 1);
        due("items", x.barOf(0, 2), 2);
        dueWritten(x, 12, "6 156 4 14 135 3");
        x.clear();
        x.bar(false);
        x.rest(0, 2, 0);
        x.clear();
        x.bar(false);
        due("ways of an empty voice", x.ways(0, 0), 0);
    }

    static void p03_cell() {
        Counted x = new Counted();
        due("cell(0)", x.cell(0), 1);
        due("cell(63)", x.cell(63), 2);
        due("cell(64)", x.cell(64), 3);
        for (int c : new int[] {-1, 65, LOW, HIGH}) {
            due("cell(" + c + ")", x.cell(c), RANGE);
        }
        dueText("the row", rowOf(x), "_ 123456 /");
        Counted full = fullRow();
        due("cells", full.told(3), 4000);
        due("cell behind 4000", full.cell(1), FULL);
        due("a wrong cell behind 4000", full.cell(65), RANGE);
        due("cells", full.told(3), 4000);
        due("the last", full.at(3999), 8);
    }

    static void p04_more() {
        Counted x = new Counted();
        due("nothing", x.more(0L), 0);
        due("some", x.more(0x0040007F00800041L), 4);
        dueText("highest first", rowOf(x), "_ 123456 / 1");
        due("all eight", x.more(0x8080808080808080L), 12);
        due("the highest byte is a cell", x.at(4), 64);
        for (long bad : new long[] {-1L, 1L, 63L, 129L, 0x4100000000000081L, 0x3F41414141414141L, Long.MIN_VALUE + 1,
                0x8100000000000000L}) {
            due("more(" + Long.toHexString(bad) + ")", x.more(bad), RANGE);
        }
        due("128 alone", x.more(Long.MIN_VALUE), 13);
        Counted full = fullRow();
        due("nothing behind 4000", full.more(0L), 4000);
        due("one behind 4000", full.more(0x41L), FULL);
        due("wrong behind 4000", full.more(0x4101L), RANGE);
        due("cut", full.cut(3993), 7);
        due("eight where seven fit", full.more(0x4141414141414141L), FULL);
        due("nothing came", full.told(3), 3993);
        due("seven fit", full.more(0x4141414100414141L), 4000);
    }

    static void p05_cut() {
        Counted x = withRow("1 2 3 4 5");
        due("cut(-1)", x.cut(-1), RANGE);
        due("cut(6)", x.cut(6), RANGE);
        due("cut(LOW)", x.cut(LOW), RANGE);
        due("cut(HIGH)", x.cut(HIGH), RANGE);
        due("cut(5)", x.cut(5), 0);
        due("cut(3)", x.cut(3), 2);
        dueText("the first three", rowOf(x), "1 2 3");
        due("cut(0)", x.cut(0), 3);
        due("cut(0) of none", x.cut(0), 0);
        due("a cell", x.cell(9), 1);
    }

    static void p06_at() {
        Counted x = withRow("1 / 3");
        due("at(0)", x.at(0), 1);
        due("at(1)", x.at(1), 64);
        due("at(2)", x.at(2), 4);
        for (int i : new int[] {-1, 3, 4000, LOW, HIGH}) {
            due("at(" + i + ")", x.at(i), NONE);
        }
        x.cut(2);
        due("at(2) after cut", x.at(2), NONE);
    }

    // ---- 7: reading

    static void p07_readGrammar() {
        dueFault("", 0);
        dueFault("_", 0);
        dueFault("/", 0);
        dueFault("46 345", 2);
        dueFault("46", 1);
        dueFault("46 _", 1);
        dueFault("2356", 0);
        dueFault("456 345 2356", 2);
        dueRead("134", 1);
        dueRead("46 345 134", 1);
        dueRead("134 _ 2356", 2);
        dueRead("134 / 2356 _ 2356 / 134", 4);
        dueFault("134 _", 2);
        dueFault("134 /", 2);
        dueFault("134 _ _ 134", 2);
        dueFault("134 _ / 134", 2);
        dueFault("134 _ 2356 2356", 3);
        dueFault("134 _ 2356 126 345 134", 3);
        dueFault("134 _ 2356 134", 3);
        dueFault("134 2", 1);
        dueFault("134 _ 46 345 134", 3);
        dueFault("134 3 3 3", 3);
        dueFault("146 134", 1);
        dueFault("5 134", 1);
        dueFault("5 5 13456", 1);
        dueFault("5 146 13456", 1);
        dueFault("34", 0);
        dueFault("134 34", 1);
        dueFault("134 14 14", 2);
        dueFault("134 4 14", 2);
        dueFault("126 345 134", 1);
        dueFault("134 126 345", 3);
        dueFault("134 126", 2);
        dueFault("134 126 _", 2);
        dueRead("134 126 345 134 126 345 134", 1);
        dueFault("134 126 345 134 126 345 134 126 345 134", 9);
        dueFault("134 126 345 134 126 345 134 126 345", 9);
        dueFault("134 126 345 2356", 3);
        dueFault("45 126 2 45 126 2 134", 4);
        dueFault("45 126 2 6 126 2 134", 4);
        dueFault("45 126 3 134", 2);
        dueFault("45 126", 2);
        dueFault("56 12 45 126 2 134", 3);
        dueRead("45 126 2 56 12 134 45 23", 1);
    }

    static void p07_readSlurs() {
        dueFault("134 45 23", 2);
        dueFault("56 12 134", 3);
        dueFault("56 12 134 _ 134", 5);
        dueFault("56 12 134 14", 3);
        dueFault("56 12 56 12 134", 3);
        dueFault("56 12 134 _ 2356", 4);
        dueFault("56 12 134 126 345 134", 4);
        dueFault("56 12 134 45 23 14", 5);
        dueFault("56 12 134 45 23 45 23", 6);
        dueFault("56 12 134 _ 56 12 134 45 23", 5);
        dueFault("134 14 45 23", 3);
        dueFault("5 13456 56 12", 4);
        Counted x = withRow("56 12 134 / 134 _ 134 45 23 _ 134 14 _ 134");
        due("read", x.read(), 5);
        dueText("slurred", all(x, 9), "1 1 0 1 0");
        dueText("bar rests", all(x, 5), "2 2 2 2 2");
        x = withRow("56 12 134 45 23");
        due("read", x.read(), 1);
        due("OPEN and CLOSE of one item", x.item(0, 9), 0);
        due("it is a bar rest", x.item(0, 5), 2);
        x = withRow("134 14");
        due("read", x.read(), 1);
        due("a slur of the last item", x.item(0, 9), 1);
        due("it is a bar rest", x.item(0, 5), 2);
    }

    static void p07_readNotes() {
        Counted x = withRow("456 345 5 13456 126 346 16 34 4 14 14 _ 146 13456 3");
        due("the dot is too long", x.read(), -10 - 15);
        fill(x, "456 345 5 13456 126 346 16 34 4 14 14 _ 146 1346");
        due("a sharp of a rest", x.read(), -10 - 13);
        fill(x, "456 345 5 13456 126 346 16 34 36 4 14 14 _ 146 13456");
        due("read", x.read(), 2);
        due("HAND", x.told(4), 2);
        dueText("bars", all(x, 0), "0 1");
        dueText("pitches", all(x, 2), "28 28");
        dueText("signs", all(x, 3), "0 1");
        dueText("kinds", all(x, 4), "0 0");
        dueText("sizes", all(x, 5), "0 0");
        dueText("tied", all(x, 8), "1 0");
        dueText("slurred", all(x, 9), "1 0");
        dueText("how many intervals", all(x, 10), "3 0");
        dueText("the first", all(x, 11), "35 0");
        dueText("the second", all(x, 12), "50 0");
        dueText("the third", all(x, 13), "8 0");
        dueText("the fourth", all(x, 14), "0 0");
        // All steps, all kinds, all octaves.
        x = inMeter(4, 1);
        fill(x, "4 13456 45 1356 456 12346 5 123456");
        due("whole notes", x.read(), 1);
        dueText("pitches", all(x, 2), "7 15 23 31");
        fill(x, "46 12356 56 2346 6 23456 4 13456");
        due("whole notes", x.read(), 1);
        dueText("pitches", all(x, 2), "39 47 55 7");
        x = inMeter(7, 2);
        fill(x, "5 1345 135 1234 12345 1235 234 2345");
        due("halves", x.read(), 1);
        dueText("kinds", all(x, 4), "1 1 1 1 1 1 1");
        dueText("pitches", all(x, 2), "28 29 30 31 32 33 34");
        x = inMeter(7, 4);
        fill(x, "5 1456 156 1246 12456 1256 246 2456");
        due("quarters", x.read(), 1);
        dueText("kinds", all(x, 4), "2 2 2 2 2 2 2");
        x = inMeter(7, 8);
        fill(x, "5 145 15 124 1245 125 24 245");
        due("eighths", x.read(), 1);
        dueText("kinds", all(x, 4), "3 3 3 3 3 3 3");
        x = inMeter(15, 8);
        fill(x, "134 136 1236 1346");
        due("rests", x.read(), 1);
        dueText("kinds", all(x, 4), "0 1 2 3");
        dueText("no pitches", all(x, 2), "-1 -1 -1 -1");
    }

    static void p07_readIntervals() {
        Counted x = withRow("5 13456 34 346 3456 35");
        due("four", x.read(), 1);
        dueText("four", x.item(0, 11) + " " + x.item(0, 12) + " " + x.item(0, 13) + " " + x.item(0, 14), "2 3 4 5");
        x = withRow("5 13456 356 25 146 36");
        due("three", x.read(), 1);
        dueText("three", x.item(0, 11) + " " + x.item(0, 12) + " " + x.item(0, 13), "6 7 24");
        dueFault("5 13456 34 34 34 34 34", 6);
        dueFault("5 13456 34 34 34 34 146 34", 7);
        dueFault("5 13456 146 146 34", 3);
        dueFault("5 13456 4 14 34", 4);
        dueFault("5 13456 14 34", 3);
        dueFault("5 13456 34 3", 3);
        // Below the lowest, and with the left hand above the highest.
        dueFault("4 13456 34", 2);
        dueFault("4 13456 146 34", 3);
        dueRead("4 1356 34", 1);
        dueFault("4 1356 346", 2);
        dueFault("46 345 4 13456 34", 4);
        dueRead("456 345 4 13456 34", 1);
        dueRead("6 23456 36", 1);
        dueFault("456 345 6 23456 34", 4);
        dueRead("456 345 6 2346 34", 1);
        // The hand that was told by a call does not matter.
        x = new Counted();
        x.hand(2);
        fill(x, "4 13456 34");
        due("without a hand", x.read(), -12);
        due("HAND stays", x.told(4), 2);
        fill(x, "134");
        due("read", x.read(), 1);
        due("HAND is what the row tells", x.told(4), 0);
    }

    static void p07_readSizes() {
        // A bar rest, and what is none.
        Counted x = inMeter(3, 4);
        fill(x, "134");
        due("a bar rest", x.read(), 1);
        dueText("it", x.item(0, 5) + " " + x.item(0, 7), "2 384");
        dueRead(3, 4, "45 126 2 134", -14);
        dueRead(3, 4, "134 3", -12);
        dueRead(3, 4, "136 3", 1);
        dueRead(3, 4, "136 3 126 345 136", -10 - 5);
        dueRead(3, 4, "136 126 345 136 3", -11);
        dueRead(3, 4, "136 / 136 3", -11);
        dueRead(3, 4, "136", -11);
        // While a slur is open 126 could still be a flat.
        dueRead(3, 4, "56 12 136 126 345 136 3", -14);
        x = withRow("45 126 2 134");
        due("no bar rest", x.read(), 1);
        due("it", x.item(0, 5), 0);
        // By the bar's length alone.
        x = withRow("5 13456");
        due("large", x.read(), 1);
        dueText("large", all(x, 5), "0");
        x = inMeter(1, 16);
        fill(x, "5 13456");
        due("small", x.read(), 1);
        dueText("small", all(x, 5), "1");
        // 256 = 128 + 64 + 8 * 8: a quarter, an eighth, and eight of kind 2.
        x = inMeter(2, 4);
        fill(x, "1236 1346 " + times(8, "1236"));
        due("mixed", x.read(), 1);
        dueText("least unlike", all(x, 5), "0 0 1 1 1 1 1 1 1 1");
        // What is told holds up to the next that is told.
        x = inMeter(5, 8);
        fill(x, "6 126 2 134 134 45 126 2 136");
        due("told", x.read(), 1);
        dueText("told", all(x, 5), "1 1 0");
        fill(x, "134 6 126 2 134 45 126 2 136");
        due("told from the second on", x.read(), 1);
        dueText("told from the second on", all(x, 5), "1 1 0");
        fill(x, "134 134 136");
        due("not told", x.read(), 1);
        dueText("not told", all(x, 5), "1 1 0");
        fill(x, "45 126 2 134 134 136");
        due("told wrongly", x.read(), -16);
        // A sign holds in its voice alone.
        x = inMeter(1, 16);
        fill(x, "6 126 2 5 13456 126 345 5 13456");
        due("two voices", x.read(), 1);
        dueText("two voices", all(x, 5), "1 1");
        x = inMeter(2, 4);
        fill(x, "6 126 2 " + times(8, "134") + "126 345 136 _ 136");
        due("two voices, two bars", x.read(), 2);
        dueText("two voices, two bars", all(x, 5), "1 1 1 1 1 1 1 1 0 0");
    }

    static void p07_readTiedSizes() {
        Counted x = inMeter(9, 16);
        fill(x, "1236 1236 1236");
        due("288 is none", x.read(), -13);
        // 160 = 128 + 16 + 16: the half as a large one is 256, so the quarter is large.
        x.meter(5, 16);
        fill(x, "136 1236 136");
        due("the one in the middle", x.read(), 1);
        dueText("the one in the middle", all(x, 5), "1 0 1");
        due("one way", x.ways(0, 0), 1);
        // 160 = 128 + 4 * 8: five quarters, one of them large: at the first, or at the last; LARGE is first.
        x.clear();
        x.meter(5, 16);
        fill(x, times(5, "1236"));
        due("five", x.read(), 1);
        dueText("LARGE at the first that differs", all(x, 5), "0 1 1 1 1");
        due("more ways", x.ways(0, 0), 2);
        // Told at its end: then SMALL before it and LARGE first have one change each; LARGE first wins.
        fill(x, times(4, "1236") + "6 126 2 1236");
        due("told small at the end", x.read(), 1);
        dueText("told small at the end", all(x, 5), "0 1 1 1 1");
        fill(x, times(4, "1236") + "45 126 2 1236");
        due("told large at the end", x.read(), 1);
        dueText("told large at the end", all(x, 5), "1 1 1 1 0");
        // Two large among ten, 320 = 256 + 8 * 8: told large at the end its neighbour is large.
        x.clear();
        x.meter(5, 8);
        fill(x, times(9, "1236") + "45 126 2 1236");
        due("its neighbour", x.read(), 1);
        dueText("its neighbour", all(x, 5), "1 1 1 1 1 1 1 1 0 0");
    }

    static void p07_readOctaves() {
        dueFault("13456", 0);
        dueFault("146 13456", 1);
        dueFault("136 1345", 1);
        dueFault("5 13456 / 13456", 3);
        dueRead("5 13456 _ 13456", 2);
        dueFault("5 13456 126 345 13456", 4);
        dueFault("5 13456 126 345 5 13456 _ 13456", 7);
        dueFault("5 13456 126 345 134 _ 13456", 6);
        dueFault("5 13456 _ 2356 _ 13456", 5);
        dueFault("5 13456 _ 2356 / 13456", 5);
        // No note came since: a rest does not tell an octave.
        dueFault("5 13456 / 134 _ 13456", 5);
        dueFault("5 13456 _ 2356 _ 134 _ 13456", 7);
        dueFault("5 13456 126 345 134 _ 134 _ 13456", 8);
        dueRead("5 13456 _ 134 _ 13456", 3);
        dueRead("5 13456 / 5 13456 _ 13456", 3);
        // A sign where none is wanted.
        dueRead("5 13456 _ 5 13456", 2);
        Counted x = inMeter(2, 1);
        fill(x, "5 1345 12345 1235 1345");
        due("fourth, second, fourth down", x.read(), 1);
        dueText("fourth, second, fourth down", all(x, 2), "28 31 32 28");
        fill(x, "5 2345 1345 2346 1345");
        due("second up", x.read(), -15);
        x = inMeter(2, 1);
        fill(x, "5 2345 1345 234 1345");
        due("second up, third down, third up", x.read(), 1);
        dueText("second up, third down, third up", all(x, 2), "34 35 33 35");
        x.clear();
        x.meter(2, 1);
        fill(x, "5 234 1234 135 2345");
        due("fourths and fifths stay in the octave", x.read(), 1);
        dueText("fourths and fifths stay in the octave", all(x, 2), "33 30 29 27");
        // Below the lowest, above the highest.
        x = inMeter(1, 1);
        fill(x, "4 1345 2345");
        due("below the lowest", x.read(), -12);
        fill(x, "6 2345 1345");
        due("above the highest", x.read(), -12);
        fill(x, "6 2345 234");
        due("the second highest", x.read(), 1);
    }

    static void p07_readLimits() {
        // 40 items in a voice, and what may stand behind them.
        String forty = times(40, "134").trim();
        Counted x = inMeter(10, 4);
        fill(x, forty);
        due("forty", x.read(), 1);
        fill(x, forty + " 134");
        due("behind forty", x.read(), -50);
        fill(x, forty + " 126 1345");
        due("a flat behind forty", x.read(), -50);
        fill(x, forty + " 126");
        due("126 alone behind forty", x.read(), -50);
        fill(x, forty + " 2");
        due("nothing at all behind forty", x.read(), -50);
        fill(x, forty + " 45 23");
        due("CLOSE behind forty, no slur open", x.read(), -50);
        fill(x, forty + " 14");
        due("SLUR of the fortieth", x.read(), 1);
        fill(x, forty + " _ 134 126 345 134");
        due("another bar and voice behind forty", x.read(), 2);
        fill(x, forty + " 126 345 134");
        due("another voice behind forty", x.read(), 1);
        fill(x, "56 12 " + forty + " 126 345 134");
        due("another voice in a slur behind forty", x.read(), -53);
        fill(x, times(39, "134") + "4 13456 4 14");
        due("TIE of the fortieth", x.read(), 1);
        fill(x, times(39, "134") + "4 13456 4 13456");
        due("an octave sign behind forty", x.read(), -51);
        fill(x, times(39, "134") + "5 13456 146 34");
        due("an interval of the fortieth", x.read(), 1);
        fill(x, times(39, "134") + "5 13456 146 13456");
        due("a sharp behind forty", x.read(), -51);
        fill(x, "56 12 " + forty + " 45 23");
        due("CLOSE of the fortieth", x.read(), 1);
        fill(x, times(40, "136"));
        due("forty that are not whole", x.read(), -50);
        // 60 bars.
        x = withRow("134" + times(59, " _ 2356"));
        due("sixty", x.read(), 60);
        due("sixty", x.told(0), 60);
        fill(x, "134" + times(60, " _ 2356"));
        due("the 61st", x.read(), -10 - 120);
        fill(x, "134" + times(59, " / 134") + " /");
        due("the 61st at the end", x.read(), -10 - 120);
        fill(x, "134" + times(60, " / 134"));
        due("the 61st with a voice", x.read(), -10 - 120);
    }

    static void p07_readManyItems() {
        Counted x = inMeter(10, 4);
        fill(x, sixHundred());
        due("600", x.read(), 15);
        due("600", x.told(1), 600);
        due("the last one", x.item(599, 0), 14);
        due("no more by bars", x.bar(false), 15);
        due("no more by notes", x.note(28, 0, 3, 0, 0), FULL);
        due("no more by bar rests", x.rest(0, 2, 0), FULL);
        fill(x, sixHundred() + " _ 2356 / 2356");
        due("repeated ones behind 600", x.read(), 17);
        x.cut(13);
        due("a part of a bar", x.read(), -10 - 13);
        fill(x, "6 126 2 " + times(40, "134") + "_ " + times(10, "1236") + "126 345 134");
        due("several voices", x.read(), 2);
        due("several voices", x.barOf(1, 2), 11);
        fill(x, times(10, "45 126 2 1236 "));
        due("told each time", x.read(), 1);
    }

    static void p07_readKeeps() {
        Counted x = inMeter(3, 4);
        x.hand(1);
        x.bar(false);
        x.note(30, 1, 1, 0, 1);
        x.interval(2, 3);
        fill(x, "46 345 134 _ 5 145");
        String before = state(x);
        due("a fault", x.read(), -16);
        dueText("nothing changes", state(x), before);
        fill(x, "456 345 134");
        String row = rowOf(x);
        due("read", x.read(), 1);
        dueText("the row stays", rowOf(x), row);
        due("the meter stays", x.told(2), 384);
        due("the music is that of the row", x.told(1), 1);
        due("and can go on", x.bar(false), 1);
        due("and can go on", x.note(28, 0, 1, 0, 1), 1);
    }

    // ---- 8 to 16: making

    static void p08_meter() {
        Counted x = new Counted();
        int[][] told = {{4, 4, 512}, {1, 16, 32}, {16, 16, 512}, {16, 4, 2048}, {4, 1, 2048}, {8, 2, 2048}, {3, 8, 192},
            {1, 1, 512}, {5, 1, RANGE}, {9, 2, RANGE}, {16, 1, RANGE}, {0, 4, RANGE}, {17, 16, RANGE}, {4, 0, RANGE},
            {4, 3, RANGE}, {4, 32, RANGE}, {-4, 4, RANGE}, {4, -4, RANGE}, {HIGH, HIGH, RANGE}, {LOW, 1, RANGE}};
        for (int[] t : told) {
            int before = x.told(2);
            due("meter(" + t[0] + ", " + t[1] + ")", x.meter(t[0], t[1]), t[2]);
            due("LENGTH", x.told(2), t[2] < 0 ? before : t[2]);
        }
        x.bar(false);
        due("with bars", x.meter(4, 4), STATE);
        due("wrong with bars", x.meter(4, 5), RANGE);
        due("LENGTH", x.told(2), 512);
    }

    static void p09_hand() {
        Counted x = new Counted();
        due("hand(3)", x.hand(3), RANGE);
        due("hand(-1)", x.hand(-1), RANGE);
        due("hand(2)", x.hand(2), 0);
        due("hand(1)", x.hand(1), 2);
        due("hand(0)", x.hand(0), 1);
        x.bar(false);
        x.note(50, 0, 1, 0, 0);
        x.interval(6, 0);
        due("55 is one", x.hand(2), 0);
        x.hand(0);
        x.interval(7, 0);
        due("56 is none", x.hand(2), STATE);
        due("HAND stays", x.told(4), 0);
        due("wrong and not now", x.hand(9), RANGE);
        due("right is as none", x.hand(1), 0);
        x = new Counted();
        x.hand(2);
        x.bar(false);
        x.note(8, 0, 1, 0, 0);
        x.interval(2, 0);
        due("7 is one", x.hand(0), 2);
        x.hand(2);
        x.note(12, 0, 1, 0, 0);
        x.interval(7, 0);
        due("6 is none", x.hand(1), STATE);
        due("nor without a hand", x.hand(0), STATE);
        due("HAND stays", x.hand(2), 2);
    }

    static void p10_bar() {
        Counted x = new Counted();
        due("the first is repeated", x.bar(true), STATE);
        due("the first", x.bar(false), 0);
        due("behind an empty voice", x.bar(false), STATE);
        x.note(28, 0, 1, 0, 0);
        due("behind half a voice", x.bar(true), STATE);
        x.rest(1, 0, 0);
        due("repeated", x.bar(true), 1);
        due("repeated again", x.bar(true), 2);
        due("one more", x.bar(false), 3);
        x.rest(0, 2, 0);
        x.voice();
        due("behind an empty second voice", x.bar(false), STATE);
        x.rest(0, 0, 0);
        for (int b = 4; b < 60; b++) {
            due("bar " + b, x.bar(true), b);
        }
        due("the 61st", x.bar(true), FULL);
        due("the 61st", x.bar(false), FULL);
        due("bars", x.told(0), 60);
        x = new Counted();
        x.bar(false);
        x.rest(0, 2, 0);
        for (int b = 1; b < 59; b++) {
            x.bar(true);
        }
        due("the 60th", x.bar(false), 59);
        due("not whole goes before full", x.bar(false), STATE);
    }

    static void p11_voice() {
        Counted x = new Counted();
        due("no bar", x.voice(), STATE);
        x.bar(false);
        due("an empty voice", x.voice(), STATE);
        x.rest(0, 2, 0);
        due("the second", x.voice(), 1);
        due("the second is empty", x.voice(), STATE);
        x.note(28, 0, 0, 0, 0);
        due("the third", x.voice(), 2);
        due("the third is empty", x.voice(), STATE);
        x.note(28, 0, 0, 0, 0);
        due("three", x.voice(), FULL);
        due("voices", x.barOf(0, 0), 3);
        x.bar(true);
        due("repeated", x.voice(), STATE);
    }

    static void p12_note() {
        Counted x = new Counted();
        due("no bar", x.note(28, 0, 0, 0, 0), STATE);
        x.bar(false);
        int[][] bad = {{6, 0, 0, 0, 0}, {56, 0, 0, 0, 0}, {28, -1, 0, 0, 0}, {28, 4, 0, 0, 0}, {28, 0, -1, 0, 0},
            {28, 0, 4, 0, 0}, {28, 0, 0, -1, 0}, {28, 0, 0, 2, 0}, {28, 0, 0, 0, -1}, {28, 0, 0, 0, 3},
            {LOW, HIGH, LOW, HIGH, LOW}, {HIGH, 0, 0, 0, 0}};
        for (int[] b : bad) {
            due("a wrong number", x.note(b[0], b[1], b[2], b[3], b[4]), RANGE);
        }
        due("too long", x.note(28, 0, 0, 0, 1), STATE);
        due("lowest", x.note(7, 3, 1, 0, 0), 0);
        due("highest", x.note(55, 0, 2, 0, 0), 1);
        due("too long", x.note(55, 0, 2, 0, 1), STATE);
        due("two dots", x.note(30, 2, 3, 0, 2), 2);
        due("small", x.note(30, 0, 1, 1, 0), 3);
        due("whole now", x.told(5), 512);
        due("behind a whole voice", x.note(30, 0, 3, 1, 0), STATE);
        due("wrong behind a whole voice", x.note(30, 9, 3, 1, 0), RANGE);
        x.bar(true);
        due("repeated", x.note(30, 0, 3, 1, 0), STATE);
        x.bar(false);
        x.rest(0, 2, 0);
        due("behind a bar rest", x.note(30, 0, 3, 1, 0), STATE);
        x.bar(false);
        notes(x, 40, 28, 3, 1);
        due("items", x.barOf(3, 2), 40);
        due("the 41st", x.note(28, 0, 3, 1, 0), FULL);
        due("the 41st, too long", x.note(28, 0, 0, 0, 0), STATE);
        due("the 41st, wrong", x.note(28, 0, 4, 0, 0), RANGE);
        due("the 41st as a rest", x.rest(3, 1, 0), FULL);
    }

    static void p13_rest() {
        Counted x = new Counted();
        due("no bar", x.rest(0, 0, 0), STATE);
        due("no bar", x.rest(0, 2, 0), STATE);
        x.bar(false);
        int[][] bad = {{-1, 0, 0}, {4, 0, 0}, {0, -1, 0}, {0, 3, 0}, {0, 0, -1}, {0, 0, 3}, {1, 2, 0}, {0, 2, 1},
            {LOW, 0, 0}, {0, HIGH, 0}};
        for (int[] b : bad) {
            due("a wrong number", x.rest(b[0], b[1], b[2]), RANGE);
        }
        due("too long", x.rest(0, 0, 2), STATE);
        due("a rest", x.rest(2, 0, 2), 0);
        due("a bar rest behind items", x.rest(0, 2, 0), STATE);
        due("wrong behind items", x.rest(3, 2, 0), RANGE);
        due("a rest", x.rest(0, 1, 0), 1);
        dueText("they last", all(x, 7), "224 32");
        dueText("no pitch", all(x, 2), "-1 -1");
        x.rest(1, 0, 0);
        x.bar(false);
        due("a bar rest", x.rest(0, 2, 0), 3);
        due("behind a bar rest", x.rest(3, 1, 0), STATE);
        due("a bar rest behind a bar rest", x.rest(0, 2, 0), STATE);
        x.bar(true);
        due("repeated", x.rest(0, 2, 0), STATE);
    }

    static void p14_interval() {
        Counted x = new Counted();
        due("no item", x.interval(2, 0), STATE);
        x.bar(false);
        x.note(11, 0, 1, 0, 0);
        for (int n : new int[] {1, 9, 0, -2, LOW, HIGH}) {
            due("interval(" + n + ")", x.interval(n, 0), RANGE);
        }
        due("a wrong sign", x.interval(2, 4), RANGE);
        due("a wrong sign", x.interval(2, -1), RANGE);
        due("7", x.interval(5, 3), 1);
        due("6", x.interval(6, 0), STATE);
        due("the second", x.interval(2, 1), 2);
        due("the third", x.interval(2, 1), 3);
        due("the fourth", x.interval(3, 2), 4);
        due("the fifth", x.interval(3, 0), FULL);
        due("the fifth, too low", x.interval(8, 0), STATE);
        due("the fifth, wrong", x.interval(9, 0), RANGE);
        dueText("intervals", x.item(0, 10) + " " + x.item(0, 11) + " " + x.item(0, 12) + " " + x.item(0, 13) + " "
            + x.item(0, 14), "4 53 18 18 35");
        x.rest(1, 0, 0);
        due("a rest", x.interval(2, 0), STATE);
        x = new Counted();
        x.hand(2);
        x.bar(false);
        x.note(50, 0, 0, 0, 0);
        due("55", x.interval(6, 0), 1);
        due("56", x.interval(7, 0), STATE);
        x.bar(false);
        due("the last item is that of the bar before", x.interval(2, 0), 2);
    }

    static void p15_tie() {
        Counted x = new Counted();
        due("no item", x.tie(true), STATE);
        x.bar(false);
        due("no item", x.tie(false), STATE);
        x.note(28, 0, 1, 0, 0);
        due("not", x.tie(false), 0);
        due("tied", x.tie(true), 0);
        due("tied again", x.tie(true), 1);
        due("told", x.item(0, 8), 1);
        due("not any more", x.tie(false), 1);
        due("told", x.item(0, 8), 0);
        x.rest(1, 0, 0);
        due("a rest", x.tie(true), STATE);
        due("a rest", x.tie(false), STATE);
    }

    static void p16_slur() {
        Counted x = new Counted();
        due("no item", x.slur(0, true), NONE);
        x.bar(false);
        halves(x, 28);
        for (int i : new int[] {-1, 2, 600, LOW, HIGH}) {
            due("slur(" + i + ")", x.slur(i, true), NONE);
        }
        due("a rest", x.slur(1, true), 0);
        due("again", x.slur(1, true), 1);
        due("a note", x.slur(0, false), 0);
        dueText("told", all(x, 9), "0 1");
        due("not any more", x.slur(1, false), 1);
        dueText("told", all(x, 9), "0 0");
    }

    // ---- 17 to 20: writing

    static void p17_writeRefusals() {
        Counted x = withRow("1 2 3");
        due("no bars", x.write(40), STATE);
        due("no bars, wrong", x.write(11), RANGE);
        x.bar(false);
        due("an empty voice", x.write(40), STATE);
        x.rest(0, 2, 0);
        for (int w : new int[] {11, 201, 0, -1, LOW, HIGH}) {
            due("write(" + w + ")", x.write(w), RANGE);
        }
        dueText("the row stays", rowOf(x), "1 2 3");
        due("write(12)", x.write(12), 1);
        due("write(200)", x.write(200), 1);
        x.voice();
        due("an empty second voice", x.write(40), STATE);
        x.rest(0, 2, 0);
        x.bar(true);
        dueWritten(x, 40, "134 126 345 134 _ 2356");
    }

    static void p17_writeNotes() {
        Counted x = new Counted();
        x.hand(1);
        x.bar(false);
        x.note(28, 1, 1, 0, 0);
        x.interval(3, 2);
        x.interval(8, 0);
        x.tie(true);
        x.slur(0, true);
        x.note(28, 2, 2, 0, 1);
        x.note(35, 3, 3, 0, 0);
        x.bar(true);
        x.bar(false);
        x.rest(1, 0, 0);
        x.note(36, 0, 2, 0, 2);
        x.rest(0, 1, 0);
        String want = "46 345 146 5 1345 126 346 36 4 14 14 126 1456 3 16 46 145 _ 2356 _ 136 46 156 3 3 134";
        dueWritten(x, 40, want);
        due("read again", x.read(), 3);
        dueWritten(x, 40, want);
        // All steps, all kinds of rests, all octaves, all intervals.
        x = inMeter(15, 8);
        x.bar(false);
        x.rest(0, 0, 0);
        x.rest(1, 0, 0);
        x.rest(2, 0, 0);
        x.rest(3, 0, 0);
        dueWritten(x, 12, "134 136 1236 1346");
        x = inMeter(4, 1);
        int[] pitches = {7, 15, 23, 31, 39, 47, 55};
        String[] octaves = {"4 13456", "45 1356", "456 12346", "5 123456", "46 12356", "56 2346", "6 23456"};
        x.bar(false);
        for (int i = 0; i < 4; i++) {
            x.note(pitches[i], 0, 0, 0, 0);
        }
        dueWritten(x, 12, octaves[0] + " " + octaves[1] + " " + octaves[2] + " " + octaves[3]);
        x = inMeter(3, 1);
        x.bar(false);
        for (int i = 4; i < 7; i++) {
            x.note(pitches[i], 0, 0, 0, 0);
            x.interval(i, 0);
            x.interval(i + 2, 0);
        }
        dueWritten(x, 12, octaves[4] + " 3456 356 " + octaves[5] + " 35 25 " + octaves[6] + " 356 36");
    }

    static void p17_writeLines() {
        // Bars of 5 cells: the octave sign goes where the bar stands behind a blank.
        Counted x = new Counted();
        for (int b = 0; b < 5; b++) {
            x.bar(false);
            notes(x, 4, 28, 2, 0);
        }
        String four = times(4, "1456").trim();
        dueWritten(x, 13, "5 " + four + " _ " + four + " / 5 " + four + " _ " + four + " / 5 " + four);
        dueWritten(x, 15, "5 " + four + " _ " + four + " _ " + four + " / 5 " + four + " _ " + four);
        dueWritten(x, 14, "5 " + four + " _ " + four + " / 5 " + four + " _ " + four + " / 5 " + four);
        due("read again", x.read(), 5);
        // The hand's sign counts in the first line.
        x.hand(2);
        dueWritten(x, 12, "456 345 5 " + four + " _ " + four + " / 5 " + four + " _ " + four + " / 5 " + four);
        dueWritten(x, 16, "456 345 5 " + four + " _ " + four + " / 5 " + four + " _ " + four + " _ " + four);
        // A rest at a line's begin leaves the octave to the next note.
        x = new Counted();
        x.bar(false);
        notes(x, 8, 28, 3, 0);
        x.bar(false);
        x.rest(1, 0, 0);
        x.rest(1, 0, 0);
        x.bar(false);
        x.rest(0, 2, 0);
        x.bar(false);
        notes(x, 2, 28, 1, 0);
        dueWritten(x, 12, "5 " + times(8, "145") + "_ 136 136 / 134 _ 5 1345 1345");
    }

    static void p17_writeOctaves() {
        Counted x = new Counted();
        x.bar(false);
        x.note(28, 0, 0, 0, 0);
        x.voice();
        x.note(28, 0, 0, 0, 0);
        x.bar(false);
        x.rest(0, 2, 0);
        x.bar(false);
        x.note(28, 0, 0, 0, 0);
        x.bar(false);
        x.note(31, 0, 0, 0, 0);
        x.bar(false);
        x.note(35, 0, 0, 0, 0);
        x.bar(true);
        x.bar(false);
        x.note(35, 0, 0, 0, 0);
        dueWritten(x, 60, "5 13456 126 345 5 13456 _ 134 _ 5 13456 _ 123456 _ 46 13456 _ 2356 _ 46 13456");
    }

    static void p17_writeSizes() {
        // As it is read without signs.
        Counted x = inMeter(5, 16);
        x.bar(false);
        x.rest(2, 0, 0);
        for (int i = 0; i < 4; i++) {
            x.rest(2, 1, 0);
        }
        dueWritten(x, 40, times(5, "1236").trim());
        due("signed", x.signed(0, 0), 0);
        // Another way than that: signs at each change.
        x = inMeter(5, 16);
        x.bar(false);
        x.rest(2, 1, 0);
        x.rest(2, 0, 0);
        for (int i = 0; i < 3; i++) {
            x.rest(2, 1, 0);
        }
        due("signed", x.signed(0, 0), 1);
        dueWritten(x, 40, "6 126 2 1236 45 126 2 1236 6 126 2 1236 1236 1236");
        due("read again", x.read(), 1);
        dueText("sizes", all(x, 5), "1 0 1 1 1");
        // A rest that is no bar rest, and one that is.
        x = new Counted();
        x.bar(false);
        x.rest(0, 0, 0);
        due("signed", x.signed(0, 0), 1);
        x.voice();
        x.rest(0, 2, 0);
        due("signed", x.signed(0, 1), 0);
        dueWritten(x, 12, "45 126 2 134 126 345 134");
        x = inMeter(1, 16);
        x.bar(false);
        x.rest(0, 1, 0);
        x.slur(0, true);
        dueWritten(x, 12, "6 126 2 134 14");
    }

    private static Counted eighths(int bars) {
        Counted x = inMeter(4, 8);
        for (int b = 0; b < bars; b++) {
            x.bar(false);
            notes(x, 4, 28, 3, 0);
        }
        return x;
    }

    static void p17_writeSlurs() {
        String four = "145 145 145 145";
        Counted x = eighths(2);
        for (int i = 0; i < 3; i++) {
            x.slur(i, true);
        }
        dueWritten(x, 60, "5 145 14 145 14 145 14 145 _ " + four);
        x.slur(3, true);
        dueWritten(x, 60, "56 12 5 " + four + " _ 145 45 23 145 145 145");
        due("read again", x.read(), 2);
        dueText("slurred", all(x, 9), "1 1 1 1 0 0 0 0");
        // Up to the music's last item and beyond it.
        for (int i = 4; i < 7; i++) {
            x.slur(i, true);
        }
        dueWritten(x, 60, "56 12 5 " + four + " _ " + four + " 45 23");
        x.slur(7, true);
        dueWritten(x, 60, "5 " + times(4, "145 14") + "_ " + times(4, "145 14").trim());
        // Two rows of five behind one another.
        x = eighths(3);
        for (int i = 0; i < 9; i++) {
            x.slur(i, i != 4);
        }
        dueWritten(x, 60, "56 12 5 145 145 145 145 _ 145 45 23 56 12 145 145 145 _ 145 145 45 23 145 145");
        // A repeated bar between, and one that only stands behind.
        x = eighths(1);
        x.bar(true);
        x.bar(false);
        notes(x, 4, 28, 3, 0);
        for (int i = 0; i < 5; i++) {
            x.slur(i, true);
        }
        dueWritten(x, 60, "5 " + times(4, "145 14") + "_ 2356 _ 5 145 14 145 145 145");
        x = eighths(2);
        x.bar(true);
        for (int i = 0; i < 7; i++) {
            x.slur(i, true);
        }
        dueWritten(x, 60, "56 12 5 " + four + " _ " + four + " 45 23 _ 2356");
    }

    static void p17_writeSlursOverVoices() {
        Counted x = eighths(1);
        x.voice();
        notes(x, 4, 28, 3, 0);
        for (int i = 2; i < 7; i++) {
            x.slur(i, true);
        }
        dueWritten(x, 60, "5 145 145 145 14 145 14 126 345 5 145 14 145 14 145 14 145");
        // From the last voice of a bar into the next bar no ANOTHER VOICE stands between.
        x.bar(false);
        notes(x, 4, 28, 3, 0);
        for (int i = 0; i < 12; i++) {
            x.slur(i, i >= 4 && i < 11);
        }
        dueWritten(x, 60, "5 145 145 145 145 126 345 56 12 5 145 145 145 145 _ 5 145 145 145 145 45 23");
        // OPEN stands behind the size's sign, and SLUR behind the tie.
        x = new Counted();
        x.bar(false);
        x.rest(0, 0, 0);
        x.slur(0, true);
        for (int b = 0; b < 4; b++) {
            x.bar(false);
            x.note(28, 0, 0, 0, 0);
            x.tie(b == 3);
            x.slur(b + 1, b < 3);
        }
        dueWritten(x, 60, "45 126 2 56 12 134 _ 5 13456 _ 13456 _ 13456 _ 13456 4 14 45 23");
    }

    static void p17_writeTooLong() {
        Counted x = new Counted();
        x.bar(false);
        x.rest(0, 2, 0);
        x.bar(false);
        x.note(28, 0, 1, 0, 0);
        notes(x, 16, 28, 1, 1);
        fill(x, "1 2");
        due("the second has 18", x.write(17), -11);
        dueText("the row stays", rowOf(x), "1 2");
        due("18 fit", x.write(18), 20);
        x = new Counted();
        x.hand(1);
        x.bar(false);
        notes(x, 8, 28, 3, 0);
        x.voice();
        x.rest(0, 2, 0);
        due("the first has 12, and the hand 2", x.write(13), -10);
        due("14 fit", x.write(14), 14);
        x.hand(0);
        due("12 fit", x.write(12), 12);
    }

    static void p18_wants() {
        Counted x = new Counted();
        for (int from = 7; from <= 55; from++) {
            for (int to = 7; to <= 55; to++) {
                int apart = Math.max(from, to) - Math.min(from, to);
                int want = apart <= 2 ? 0 : apart >= 5 ? 1 : from / 7 == to / 7 ? 0 : 1;
                due("wants(" + from + ", " + to + ")", x.wants(from, to), want);
            }
        }
        int[][] bad = {{6, 7}, {7, 6}, {56, 55}, {55, 56}, {LOW, HIGH}, {HIGH, LOW}, {0, 28}};
        for (int[] b : bad) {
            due("wants(" + b[0] + ", " + b[1] + ")", x.wants(b[0], b[1]), RANGE);
        }
    }

    static void p19_ways() {
        Counted x = new Counted();
        due("no bar", x.ways(0, 0), NONE);
        x.bar(false);
        due("an empty voice", x.ways(0, 0), 0);
        x.rest(0, 2, 0);
        due("a bar rest", x.ways(0, 0), 1);
        x.voice();
        x.rest(0, 0, 0);
        due("a rest that is none", x.ways(0, 1), 1);
        x.bar(true);
        due("a repeated bar", x.ways(1, 0), NONE);
        int[][] none = {{-1, 0}, {2, 0}, {0, -1}, {0, 2}, {0, 3}, {LOW, HIGH}, {HIGH, LOW}, {60, 0}};
        for (int[] n : none) {
            due("ways(" + n[0] + ", " + n[1] + ")", x.ways(n[0], n[1]), NONE);
        }
        x.bar(false);
        x.note(28, 0, 1, 1, 0);
        due("16 or 256", x.ways(2, 0), 0);
        x.note(28, 0, 1, 1, 0);
        due("two halves, though they are small", x.ways(2, 0), 1);
        x = inMeter(5, 16);
        x.bar(false);
        notes(x, 5, 28, 2, 1);
        due("one of five", x.ways(0, 0), 2);
        x = inMeter(15, 16);
        x.bar(false);
        due("an empty voice of 480", x.ways(0, 0), 0);
        x.rest(0, 1, 0);
        due("a bar rest is no way", x.ways(0, 0), 0);
    }

    static void p20_signed() {
        Counted x = new Counted();
        due("no bar", x.signed(0, 0), NONE);
        x.bar(false);
        due("an empty voice", x.signed(0, 0), STATE);
        x.note(28, 0, 1, 0, 0);
        due("half a voice", x.signed(0, 0), STATE);
        x.note(28, 0, 1, 0, 0);
        due("two halves", x.signed(0, 0), 0);
        x.voice();
        x.rest(0, 0, 0);
        due("a rest that is no bar rest", x.signed(0, 1), 1);
        x.bar(true);
        int[][] none = {{1, 0}, {-1, 0}, {2, 0}, {0, -1}, {0, 2}, {LOW, HIGH}, {HIGH, LOW}};
        for (int[] n : none) {
            due("signed(" + n[0] + ", " + n[1] + ")", x.signed(n[0], n[1]), NONE);
        }
        x = new Counted();
        x.bar(false);
        x.note(28, 0, 0, 0, 0);
        due("a note alone", x.signed(0, 0), 0);
        // 160 = 8 * 4 + 128 by the last one: as good as by the first, but that has LARGE first.
        x = inMeter(5, 16);
        x.bar(false);
        notes(x, 4, 28, 2, 1);
        x.note(28, 0, 2, 0, 0);
        due("SMALL first", x.signed(0, 0), 1);
    }

    // ---- 21 to 24: what there is

    static void p21_barOf() {
        Counted x = new Counted();
        due("no bar", x.barOf(0, 0), NONE);
        due("no bar, wrong", x.barOf(0, 9), NONE);
        x.bar(false);
        due("an empty voice", x.barOf(0, 0), 1);
        due("no first item", x.barOf(0, 1), NONE);
        due("no items", x.barOf(0, 2), 0);
        halves(x, 28);
        x.voice();
        due("first", x.barOf(0, 1), 0);
        halves(x, 30);
        x.bar(true);
        x.bar(false);
        x.rest(0, 2, 0);
        dueText("the first", x.barOf(0, 0) + " " + x.barOf(0, 1) + " " + x.barOf(0, 2), "2 0 4");
        dueText("repeated", x.barOf(1, 0) + " " + x.barOf(1, 1) + " " + x.barOf(1, 2), "0 -1 0");
        dueText("the third", x.barOf(2, 0) + " " + x.barOf(2, 1) + " " + x.barOf(2, 2), "1 4 1");
        for (int what : new int[] {-1, 3, LOW, HIGH}) {
            due("barOf(0, " + what + ")", x.barOf(0, what), RANGE);
            due("barOf(1, " + what + ")", x.barOf(1, what), RANGE);
            due("barOf(3, " + what + ")", x.barOf(3, what), NONE);
        }
        due("barOf(-1, 0)", x.barOf(-1, 0), NONE);
    }

    static void p22_item() {
        Counted x = new Counted();
        due("no item", x.item(0, 0), NONE);
        x.bar(false);
        x.rest(0, 2, 0);
        x.bar(false);
        x.rest(1, 0, 0);
        x.rest(1, 0, 0);
        x.voice();
        x.note(33, 2, 1, 0, 1);
        x.interval(4, 3);
        x.tie(true);
        x.slur(3, true);
        StringBuilder text = new StringBuilder();
        for (int what = 0; what < 15; what++) {
            text.append(x.item(3, what)).append(' ');
        }
        dueText("a note", text.toString(), "1 1 33 2 1 0 1 384 1 1 1 52 0 0 0 ");
        text.setLength(0);
        for (int what = 0; what < 15; what++) {
            text.append(x.item(0, what)).append(' ');
        }
        dueText("a bar rest", text.toString(), "0 0 -1 0 0 2 0 512 0 0 0 0 0 0 0 ");
        for (int what : new int[] {-1, 15, LOW, HIGH}) {
            due("item(0, " + what + ")", x.item(0, what), RANGE);
            due("item(4, " + what + ")", x.item(4, what), NONE);
        }
        for (int i : new int[] {-1, 4, 600, LOW, HIGH}) {
            due("item(" + i + ", 0)", x.item(i, 0), NONE);
        }
        // How long each lasts.
        int[] large = {512, 256, 128, 64, 768, 384, 192, 96, 896, 448, 224, 112};
        int[] small = {32, 16, 8, 4, 48, 24, 12, 6, 56, 28, 14, 7};
        for (int n = 0; n < 12; n++) {
            Counted y = inMeter(4, 1);
            y.bar(false);
            y.note(28, 0, n % 4, 0, n / 4);
            y.rest(n % 4, 1, n / 4);
            due("large " + n, y.item(0, 7), large[n]);
            due("small " + n, y.item(1, 7), small[n]);
            due("both", y.told(5), large[n] + small[n]);
        }
    }

    static void p23_loose() {
        Counted x = new Counted();
        due("nothing", x.loose(), 0);
        x.bar(false);
        x.note(28, 0, 2, 0, 0);
        due("not tied", x.loose(), 0);
        x.tie(true);
        due("nothing comes", x.loose(), 1);
        x.note(28, 1, 2, 0, 0);
        due("the same pitch comes", x.loose(), 0);
        x.tie(true);
        x.note(35, 0, 2, 0, 0);
        due("another comes", x.loose(), 1);
        x.interval(8, 0);
        due("an interval is not the item", x.loose(), 1);
        x.tie(true);
        x.rest(2, 0, 0);
        due("a rest comes", x.loose(), 2);
        x.bar(false);
        x.note(35, 0, 0, 0, 0);
        due("not the next but one", x.loose(), 2);
        x.tie(true);
        x.bar(true);
        x.bar(false);
        x.note(35, 0, 0, 0, 0);
        due("over a repeated bar", x.loose(), 2);
        x.tie(true);
        x.voice();
        x.note(35, 0, 0, 0, 0);
        due("into another voice", x.loose(), 2);
    }

    static void p24_told() {
        Counted x = inMeter(3, 4);
        for (int what : new int[] {-1, 6, LOW, HIGH}) {
            due("told(" + what + ")", x.told(what), RANGE);
        }
        due("the last voice", x.told(5), 0);
        x.hand(1);
        x.bar(false);
        due("the last voice", x.told(5), 0);
        x.note(28, 0, 2, 0, 0);
        due("the last voice", x.told(5), 128);
        x.note(28, 0, 1, 0, 0);
        x.voice();
        due("the last voice", x.told(5), 0);
        x.rest(0, 2, 0);
        due("the last voice", x.told(5), 384);
        x.cell(1);
        x.cell(2);
        dueText("all", x.told(0) + " " + x.told(1) + " " + x.told(2) + " " + x.told(3) + " " + x.told(4),
            "1 3 384 2 1");
        x.bar(true);
        due("bars", x.told(0), 2);
        due("a repeated bar has no voice", x.told(5), 0);
    }

    public static void main(String[] args) {
        runAll(PromiseTests.class);
    }
}
