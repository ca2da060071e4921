import java.util.function.Supplier;

/** The edges of term 1 and of promises 1 to 6: a new object, clear, and the row; and an object's 512th call. */
public final class RowEdgeTests extends Bench {

    // ---- 1 CELLS

    static void t1_row_holds4000AndNoMore() {
        Counted x = fullRow();
        due("cells", x.told(3), 4000);
        due("the 4001st", x.cell(1), FULL);
        due("cells", x.told(3), 4000);
    }

    static void t1_row_64CountsAsAPlace() {
        Counted x = new Counted();
        for (int i = 0; i < 500; i++) {
            x.more(0x8080808080808080L);
        }
        due("places", x.told(3), 4000);
        due("the last place", x.at(3999), 64);
        due("the 4001st", x.cell(64), FULL);
    }

    static void t1_blankIs0() {
        dueText("two bars", rowOf(written(reading("134 _ 134"), 12)), "134 _ 134");
        Counted x = reading("134 _ 134");
        x.write(12);
        due("between them", x.at(1), 0);
    }

    /** Dots 1 2 3 4 5 6 count 1 2 4 8 16 32. */
    static void t1_cell_countsItsDots() {
        Counted x = new Counted();
        x.bar(false);
        x.note(34, 0, 1, 0, 0);
        x.note(35, 0, 1, 0, 0);
        x.write(12);
        due("5", x.at(0), 16);
        due("2345", x.at(1), 2 + 4 + 8 + 16);
        due("1345", x.at(2), 1 + 4 + 8 + 16);
        x.clear();
        x.bar(false);
        x.note(55, 1, 0, 0, 0);
        x.write(12);
        due("146", x.at(0), 1 + 8 + 32);
        due("6", x.at(1), 32);
    }

    private static Counted written(Counted x, int width) {
        x.write(width);
        return x;
    }

    // ---- the face

    static void t4_answers_belowZero() {
        due("NONE", BrailleCells.NONE, -1);
        due("RANGE", BrailleCells.RANGE, -2);
        due("STATE", BrailleCells.STATE, -3);
        due("FULL", BrailleCells.FULL, -4);
    }

    // ---- up to an object's 512th call

    static void p03_cell_asThe512thCall() {
        BrailleCells x = new BrailleCells();
        for (int n = 1; n <= 512; n++) {
            due("cell", x.cell(n % 65), n);
        }
    }

    static void p07_read_asThe512thCall() {
        BrailleCells x = new BrailleCells();
        x.cell(13);
        for (int n = 2; n <= 512; n++) {
            due("read", x.read(), 1);
        }
    }

    /** 120 voices of one note and its interval and tie, and at last a note more. */
    static void p12_note_asThe512thCall() {
        BrailleCells x = new BrailleCells();
        int calls = 0;
        for (int item = 0; item < 120; item++) {
            due("bar or voice", item % 2 == 0 ? x.bar(false) : x.voice(), item % 2 == 0 ? item / 2 : 1);
            due("note", x.note(28, 0, 0, 0, 0), item);
            due("interval", x.interval(3, 0), 1);
            due("tie", x.tie(true), 0);
            calls += 4;
        }
        for (; calls < 510; calls++) {
            due("slur", x.slur(calls - 480, true), 0);
        }
        due("voice", x.voice(), 2);
        due("the 512th", x.note(28, 0, 0, 0, 0), 120);
    }

    static void p17_write_asThe512thCall() {
        BrailleCells x = new BrailleCells();
        x.bar(false);
        x.rest(0, 2, 0);
        for (int n = 3; n <= 512; n++) {
            due("write", x.write(12 + n % 100), 1);
        }
    }

    // ---- 1 a new object

    static void p01_new_hasNoCells() {
        due("told(3)", new Counted().told(3), 0);
        due("at(0)", new Counted().at(0), NONE);
        due("cut(0)", new Counted().cut(0), 0);
        due("the first cell", new Counted().cell(9), 1);
    }

    static void p01_new_hasNoBars() {
        due("told(0)", new Counted().told(0), 0);
        due("told(1)", new Counted().told(1), 0);
        due("told(5)", new Counted().told(5), 0);
        due("barOf(0, 0)", new Counted().barOf(0, 0), NONE);
        due("item(0, 0)", new Counted().item(0, 0), NONE);
        due("loose()", new Counted().loose(), 0);
        due("the first bar", new Counted().bar(false), 0);
    }

    static void p01_new_hasMeter4_4() {
        due("told(2)", new Counted().told(2), 512);
        Counted x = new Counted();
        x.bar(false);
        due("a note of 512", x.note(28, 0, 0, 0, 0), 0);
        due("is whole", x.voice(), 1);
        due("one of 768", x.note(28, 0, 0, 0, 1), STATE);
    }

    static void p01_new_hasHand0() {
        due("told(4)", new Counted().told(4), 0);
        due("hand(1)", new Counted().hand(1), 0);
    }

    static void p01_new_sharesNothingWithAnother() {
        Counted one = reading("456 345 5 13456 34 4 14 14");
        Counted other = new Counted();
        due("bars", other.told(0), 0);
        due("items", other.told(1), 0);
        due("cells", other.told(3), 0);
        due("hand", other.told(4), 0);
        other.meter(1, 16);
        other.bar(false);
        other.cell(3);
        due("bars of the first", one.told(0), 1);
        due("LENGTH of the first", one.told(2), 512);
        due("cells of the first", one.told(3), 8);
        due("hand of the first", one.told(4), 2);
    }

    // ---- 2 clear

    private static final Supplier<Counted> NEW = Counted::new;

    private static void dueAsNew(String what, Supplier<Counted> made) {
        Supplier<Counted> cleared = () -> {
            Counted x = made.get();
            x.clear();
            return x;
        };
        dueText(what, look(cleared), look(NEW));
    }

    static void p02_clear_ofANewObject() {
        dueAsNew("a new object", NEW);
    }

    static void p02_clear_ofAFullRow() {
        dueAsNew("4000 cells", Bench::fullRow);
        Counted x = fullRow();
        x.clear();
        due("a cell", x.cell(7), 1);
        due("it is the first", x.at(0), 7);
        due("none is behind it", x.at(1), NONE);
    }

    static void p02_clear_ofTheMeter() {
        dueAsNew("a meter", () -> inMeter(1, 16));
        Counted x = inMeter(4, 1);
        x.bar(false);
        x.clear();
        due("LENGTH", x.told(2), 512);
        due("the meter can be told again", x.meter(3, 4), 384);
    }

    static void p02_clear_ofTheHand() {
        dueAsNew("a hand", () -> {
            Counted x = new Counted();
            x.hand(2);
            return x;
        });
    }

    static void p02_clear_ofSixtyBars() {
        dueAsNew("60 bars", () -> reading("134" + times(59, " _ 2356")));
        Counted x = reading("134" + times(59, " _ 2356"));
        x.clear();
        due("the first may not be repeated", x.bar(true), STATE);
        due("the first", x.bar(false), 0);
    }

    static void p02_clear_of600Items() {
        dueAsNew("600 items", () -> reading(10, 4, sixHundred()));
        Counted x = reading(10, 4, sixHundred());
        x.clear();
        x.bar(false);
        due("the first", x.note(28, 0, 0, 0, 0), 0);
    }

    static void p02_clear_ofAVoiceThatIsNotWhole() {
        dueAsNew("half a voice", () -> {
            Counted x = new Counted();
            x.bar(false);
            x.rest(0, 2, 0);
            x.voice();
            x.note(28, 0, 1, 0, 0);
            return x;
        });
    }

    /** What was in an item's place does not come back with the next item there. */
    static void p02_clear_leavesNothingOfAnItem() {
        Counted x = reading("456 345 146 5 1345 126 34 34 34 34 4 14 14 126 1345");
        x.clear();
        x.bar(false);
        x.note(30, 0, 2, 0, 0);
        StringBuilder text = new StringBuilder();
        for (int what = 0; what < 15; what++) {
            text.append(x.item(0, what)).append(' ');
        }
        dueText("the first item", text.toString(), "0 0 30 0 2 0 0 128 0 0 0 0 0 0 0 ");
        due("the next is none", x.item(1, 0), NONE);
    }

    static void p02_clear_leavesNothingOfABar() {
        Counted x = reading("134 126 345 134 126 345 134 _ 2356 _ 134");
        x.clear();
        x.bar(false);
        due("voices", x.barOf(0, 0), 1);
        due("no first item", x.barOf(0, 1), NONE);
        due("items", x.barOf(0, 2), 0);
        due("ways of its empty voice", x.ways(0, 0), 0);
        due("a second voice", x.ways(0, 1), NONE);
        due("a second bar", x.barOf(1, 0), NONE);
        due("it lasts", x.told(5), 0);
    }

    static void p02_clear_afterARefusedReadOrWrite() {
        dueAsNew("a row with a fault", () -> {
            Counted x = withRow("456 345 134 _ 134 _");
            x.read();
            return x;
        });
        dueAsNew("a bar that is too long", () -> {
            Counted x = reading("5 1345 " + times(16, "1345"));
            x.write(12);
            return x;
        });
    }

    // ---- 3 cell

    static void p03_cell_0IsTheLeast() {
        Counted x = new Counted();
        due("cell(0)", x.cell(0), 1);
        due("it", x.at(0), 0);
    }

    static void p03_cell_below0IsRange() {
        for (int c : new int[] {-1, -2, -64, -4000, LOW, LOW + 1}) {
            dueRefused("cell(" + c + ")", () -> withRow("1 2"), x -> x.cell(c), RANGE);
        }
    }

    static void p03_cell_63IsTheLastCell() {
        Counted x = new Counted();
        due("cell(63)", x.cell(63), 1);
        due("it", x.at(0), 63);
    }

    static void p03_cell_64EndsALine() {
        Counted x = new Counted();
        due("cell(64)", x.cell(64), 1);
        due("it", x.at(0), 64);
    }

    static void p03_cell_above64IsRange() {
        for (int c : new int[] {65, 66, 127, 128, 255, 256, 320, HIGH - 1, HIGH}) {
            dueRefused("cell(" + c + ")", () -> withRow("1 2"), x -> x.cell(c), RANGE);
        }
    }

    static void p03_cell_eachOfThemComesBehindTheRow() {
        Counted x = new Counted();
        for (int c = 0; c <= 64; c++) {
            due("cell(" + c + ")", x.cell(c), c + 1);
        }
        for (int c = 0; c <= 64; c++) {
            due("at(" + c + ")", x.at(c), c);
        }
    }

    static void p03_cell_the4000thHasRoom() {
        Counted x = fullRow();
        x.cut(3999);
        due("the 4000th", x.cell(64), 4000);
        due("it", x.at(3999), 64);
        due("that before it", x.at(3998), 7);
    }

    static void p03_cell_the4001stIsFull() {
        for (int c : new int[] {0, 1, 63, 64}) {
            dueRefused("cell(" + c + ")", Bench::fullRow, x -> x.cell(c), FULL);
        }
    }

    static void p03_cell_rangeComesBeforeFull() {
        for (int c : new int[] {-1, 65, LOW, HIGH}) {
            dueRefused("cell(" + c + ")", Bench::fullRow, x -> x.cell(c), RANGE);
        }
    }

    static void p03_cell_behindAFullRowThatWasCut() {
        Counted x = fullRow();
        x.cut(0);
        due("a cell", x.cell(1), 1);
    }

    // ---- 4 more

    static void p04_more_0BringsNothing() {
        due("of a new object", new Counted().more(0L), 0);
        due("of a row", withRow("1 2 3").more(0L), 3);
        due("of a full row", fullRow().more(0L), 4000);
    }

    static void p04_more_64IsTheLeastByte() {
        Counted x = new Counted();
        due("64", x.more(64L), 1);
        due("it is a BLANK", x.at(0), 0);
    }

    static void p04_more_127IsTheLastCell() {
        Counted x = new Counted();
        due("127", x.more(127L), 1);
        due("it", x.at(0), 63);
    }

    static void p04_more_128EndsALine() {
        Counted x = new Counted();
        due("128", x.more(128L), 1);
        due("it", x.at(0), 64);
    }

    static void p04_more_othersAreRangeAtEachOfEightPlaces() {
        for (int place = 0; place < 8; place++) {
            for (long b : new long[] {1, 2, 32, 63, 129, 130, 191, 192, 254, 255}) {
                long row = b << 8 * place;
                due("more(" + Long.toHexString(row) + ")", new Counted().more(row), RANGE);
            }
        }
    }

    static void p04_more_eachByteAtEachOfEightPlaces() {
        for (int place = 0; place < 8; place++) {
            for (long b = 64; b <= 128; b++) {
                Counted x = new Counted();
                due("more", x.more(b << 8 * place), 1);
                due("the cell of " + b + " at " + place, x.at(0), (int) b - 64);
            }
        }
    }

    static void p04_more_theHighestComesFirst() {
        Counted x = withRow("1");
        due("eight", x.more(0x4041424344454647L), 9);
        for (int i = 0; i < 8; i++) {
            due("at(" + (i + 1) + ")", x.at(i + 1), i);
        }
    }

    static void p04_more_those0AreLeftOut() {
        Counted x = new Counted();
        due("first, middle and last", x.more(0x0041000042430000L), 3);
        due("at(0)", x.at(0), 1);
        due("at(1)", x.at(1), 2);
        due("at(2)", x.at(2), 3);
        due("at(3)", x.at(3), NONE);
    }

    static void p04_more_leastAndGreatestLong() {
        Counted x = new Counted();
        due("the least long is one 128", x.more(Long.MIN_VALUE), 1);
        due("it", x.at(0), 64);
        dueRefused("the greatest", () -> withRow("1"), y -> y.more(Long.MAX_VALUE), RANGE);
        dueRefused("-1", () -> withRow("1"), y -> y.more(-1L), RANGE);
        dueRefused("1", () -> withRow("1"), y -> y.more(1L), RANGE);
        dueRefused("the least and 1", () -> withRow("1"), y -> y.more(Long.MIN_VALUE + 1), RANGE);
        due("eight 128s", x.more(0x8080808080808080L), 9);
    }

    static void p04_more_rangeBringsNoneOfTheOthers() {
        dueRefused("the last is wrong", () -> withRow("1"), x -> x.more(0x414141414141413FL), RANGE);
        dueRefused("the first is wrong", () -> withRow("1"), x -> x.more(0x8141414141414141L), RANGE);
        dueRefused("one in the middle is wrong", () -> withRow("1"), x -> x.more(0x4141410141414141L), RANGE);
    }

    static void p04_more_upTo4000HasRoom() {
        for (int count = 1; count <= 8; count++) {
            Counted x = fullRow();
            x.cut(4000 - count);
            due(count + " where " + count + " fit", x.more(0x8080808080808080L >>> 8 * (8 - count)), 4000);
            due("the last", x.at(3999), 64);
        }
    }

    static void p04_more_above4000IsFull() {
        for (int n = 1; n <= 8; n++) {
            int count = n;
            Supplier<Counted> made = () -> {
                Counted x = fullRow();
                x.cut(4001 - count);
                return x;
            };
            due(n + " where " + (n - 1) + " fit", made.get().more(0x4949494949494949L >>> 8 * (8 - n)), FULL);
        }
        dueRefused("eight where seven fit", () -> {
            Counted x = fullRow();
            x.cut(3993);
            return x;
        }, x -> x.more(0x4949494949494949L), FULL);
        dueRefused("one where none fits", Bench::fullRow, x -> x.more(0x4900L), FULL);
    }

    static void p04_more_those0TakeNoRoom() {
        Counted x = fullRow();
        x.cut(3999);
        due("one, where one fits", x.more(0x0000004900000000L), 4000);
    }

    static void p04_more_rangeComesBeforeFull() {
        dueRefused("a wrong byte", Bench::fullRow, x -> x.more(0x4101L), RANGE);
        dueRefused("a wrong byte alone", Bench::fullRow, x -> x.more(0x81L), RANGE);
    }

    // ---- 5 cut

    static void p05_cut_allOfTheRowStays() {
        due("of five", withRow("1 2 3 4 5").cut(5), 0);
        due("of none", new Counted().cut(0), 0);
        due("of 4000", fullRow().cut(4000), 0);
        Counted x = withRow("1 2 3 4 5");
        x.cut(5);
        dueText("the row", rowOf(x), "1 2 3 4 5");
    }

    static void p05_cut_oneGoes() {
        Counted x = withRow("1 2 3 4 5");
        due("the last", x.cut(4), 1);
        dueText("the row", rowOf(x), "1 2 3 4");
    }

    static void p05_cut_allGo() {
        Counted x = withRow("1 2 / 4 5");
        due("all", x.cut(0), 5);
        due("cells", x.told(3), 0);
        due("at(0)", x.at(0), NONE);
        due("all of 4000", fullRow().cut(0), 4000);
        due("all but one of 4000", fullRow().cut(1), 3999);
    }

    static void p05_cut_below0IsRange() {
        for (int n : new int[] {-1, -5, -4000, LOW, LOW + 1}) {
            dueRefused("cut(" + n + ")", () -> withRow("1 2 3"), x -> x.cut(n), RANGE);
        }
        dueRefused("cut(-1) of none", Counted::new, x -> x.cut(-1), RANGE);
    }

    static void p05_cut_moreThanThereAreIsRange() {
        for (int n : new int[] {4, 5, 3999, 4000, 4001, HIGH - 1, HIGH}) {
            dueRefused("cut(" + n + ")", () -> withRow("1 2 3"), x -> x.cut(n), RANGE);
        }
        dueRefused("cut(1) of none", Counted::new, x -> x.cut(1), RANGE);
        dueRefused("cut(4001) of 4000", Bench::fullRow, x -> x.cut(4001), RANGE);
    }

    static void p05_cut_whatWentDoesNotComeBack() {
        Counted x = withRow("1 2 3 4");
        x.cut(1);
        due("at(1)", x.at(1), NONE);
        due("cut(2)", x.cut(2), RANGE);
        due("a cell", x.cell(63), 2);
        dueText("the row", rowOf(x), "1 123456");
    }

    static void p05_cut_leavesTheMusic() {
        Counted x = reading("46 345 134 _ 134");
        x.cut(0);
        due("bars", x.told(0), 2);
        due("HAND", x.told(4), 1);
    }

    // ---- 6 at

    static void p06_at_firstAndLast() {
        Counted x = withRow("1 / 3");
        due("at(0)", x.at(0), 1);
        due("at(1)", x.at(1), 64);
        due("at(2)", x.at(2), 4);
    }

    static void p06_at_below0IsNone() {
        for (int i : new int[] {-1, -2, -3999, -4000, LOW, LOW + 1}) {
            dueRefused("at(" + i + ")", () -> withRow("1 2 3"), x -> x.at(i), NONE);
        }
    }

    static void p06_at_behindTheRowIsNone() {
        for (int i : new int[] {3, 4, 3999, 4000, HIGH - 1, HIGH}) {
            dueRefused("at(" + i + ")", () -> withRow("1 2 3"), x -> x.at(i), NONE);
        }
    }

    static void p06_at_ofNoCellsIsNone() {
        for (int i : new int[] {-1, 0, 1, LOW, HIGH}) {
            due("at(" + i + ")", new Counted().at(i), NONE);
        }
    }

    static void p06_at_ofAFullRow() {
        Counted x = fullRow();
        due("at(0)", x.at(0), 1);
        due("at(3998)", x.at(3998), 7);
        due("at(3999)", x.at(3999), 8);
        due("at(4000)", x.at(4000), NONE);
    }

    public static void main(String[] args) {
        runAll(RowEdgeTests.class);
    }
}
