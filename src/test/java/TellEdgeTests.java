import java.util.function.Supplier;

/** The edges of promises 21 to 24: what there is. */
public final class TellEdgeTests extends Bench {

    private static Counted emptyVoice() {
        Counted x = new Counted();
        x.bar(false);
        return x;
    }

    /** Bars of two voices, repeated, of one voice. */
    private static Counted threeBars() {
        return reading("136 136 126 345 136 1236 1236 _ 2356 _ 5 13456");
    }

    private static final int[] NO_BARS = {-1, -2, LOW, LOW + 1, 3, 4, 59, 60, 61, HIGH - 1, HIGH};

    // ---- 21 barOf

    static void p21_barOf_voices() {
        Counted x = threeBars();
        due("two", x.barOf(0, 0), 2);
        due("repeated", x.barOf(1, 0), 0);
        due("one", x.barOf(2, 0), 1);
        due("three", reading("134 126 345 134 126 345 134").barOf(0, 0), 3);
        due("an empty one", emptyVoice().barOf(0, 0), 1);
    }

    static void p21_barOf_firstItem() {
        Counted x = threeBars();
        due("of the first", x.barOf(0, 1), 0);
        due("of the third", x.barOf(2, 1), 5);
        due("of the 15th of forty each", reading(10, 4, sixHundred()).barOf(14, 1), 560);
    }

    static void p21_barOf_firstItemOfABarWithoutItemsIsNone() {
        due("repeated", threeBars().barOf(1, 1), NONE);
        due("an empty voice", emptyVoice().barOf(0, 1), NONE);
        Counted x = threeBars();
        x.bar(false);
        due("an empty voice behind others", x.barOf(3, 1), NONE);
        x.note(28, 0, 1, 0, 0);
        due("it has one now", x.barOf(3, 1), 6);
        Counted y = reading(10, 4, sixHundred());
        y.bar(false);
        due("an empty voice behind 600 items", y.barOf(15, 1), NONE);
        due("no items", y.barOf(15, 2), 0);
    }

    static void p21_barOf_firstItemThoughALaterVoiceIsEmpty() {
        Counted x = reading("134");
        x.voice();
        due("first", x.barOf(0, 1), 0);
        due("items", x.barOf(0, 2), 1);
    }

    static void p21_barOf_howManyItems() {
        Counted x = threeBars();
        due("of both voices", x.barOf(0, 2), 5);
        due("repeated", x.barOf(1, 2), 0);
        due("one", x.barOf(2, 2), 1);
        String forty = times(40, "134").trim();
        Counted y = reading(10, 4, forty + " 126 345 " + forty + " 126 345 " + forty);
        due("three times forty", y.barOf(0, 2), 120);
    }

    static void p21_barOf_noSuchBarIsNone() {
        for (int bar : NO_BARS) {
            for (int what = 0; what < 3; what++) {
                int asked = what;
                dueRefused("barOf(" + bar + ", " + what + ")", TellEdgeTests::threeBars, x -> x.barOf(bar, asked), NONE);
            }
        }
        due("without bars", new Counted().barOf(0, 0), NONE);
        Counted x = reading("134" + times(59, " _ 2356"));
        due("the 60th", x.barOf(59, 0), 0);
        due("the 61st", x.barOf(60, 0), NONE);
    }

    static void p21_barOf_whatFrom0To2() {
        for (int what : new int[] {-1, -2, LOW, LOW + 1, 3, 4, HIGH - 1, HIGH}) {
            for (int b = 0; b < 3; b++) {
                int bar = b;
                dueRefused("barOf(" + b + ", " + what + ")", TellEdgeTests::threeBars, x -> x.barOf(bar, what), RANGE);
            }
        }
    }

    static void p21_barOf_noneComesBeforeRange() {
        for (int bar : new int[] {-1, 3, LOW, HIGH}) {
            for (int what : new int[] {-1, 3, LOW, HIGH}) {
                due("barOf(" + bar + ", " + what + ")", threeBars().barOf(bar, what), NONE);
            }
        }
    }

    // ---- 22 item

    private static Counted oneOfEach() {
        Counted x = new Counted();
        x.bar(false);
        x.rest(0, 2, 0);
        x.bar(true);
        x.bar(false);
        x.rest(1, 0, 0);
        x.rest(1, 0, 0);
        x.voice();
        x.note(33, 2, 1, 0, 1);
        x.interval(4, 3);
        x.interval(8, 0);
        x.interval(2, 2);
        x.interval(5, 1);
        x.tie(true);
        x.slur(3, true);
        x.rest(3, 1, 2);
        return x;
    }

    private static String whole(Counted x, int item) {
        StringBuilder text = new StringBuilder();
        for (int what = 0; what < 15; what++) {
            text.append(what == 0 ? "" : " ").append(x.item(item, what));
        }
        return text.toString();
    }

    static void p22_item_ofANoteWithAll() {
        dueText("it", whole(oneOfEach(), 3), "2 1 33 2 1 0 1 384 1 1 4 52 8 34 21");
    }

    static void p22_item_ofARest() {
        dueText("it", whole(oneOfEach(), 4), "2 1 -1 0 3 1 2 7 0 0 0 0 0 0 0");
    }

    static void p22_item_ofABarRest() {
        dueText("it", whole(oneOfEach(), 0), "0 0 -1 0 0 2 0 512 0 0 0 0 0 0 0");
    }

    static void p22_item_intervalsThatItHasNotAre0() {
        for (int n = 0; n <= 4; n++) {
            Counted x = reading("5 13456 " + times(n, "146 35"));
            due("how many", x.item(0, 10), n);
            for (int k = 0; k < 4; k++) {
                due("interval " + k + " of " + n, x.item(0, 11 + k), k < n ? 5 + 16 : 0);
            }
        }
    }

    static void p22_item_theLowestAndHighestPitch() {
        Counted x = reading("4 1345 6 2345");
        due("7", x.item(0, 2), 7);
        due("55", x.item(1, 2), 55);
    }

    static void p22_item_noSuchItemIsNone() {
        for (int i : new int[] {-1, -2, LOW, LOW + 1, 5, 6, 599, 600, 601, HIGH - 1, HIGH}) {
            dueRefused("item(" + i + ", 0)", TellEdgeTests::oneOfEach, x -> x.item(i, 0), NONE);
            due("item(" + i + ", 14)", oneOfEach().item(i, 14), NONE);
        }
        due("without bars", new Counted().item(0, 0), NONE);
        due("of an empty voice", emptyVoice().item(0, 0), NONE);
    }

    static void p22_item_the600thIsTheLast() {
        Counted x = reading(10, 4, sixHundred());
        due("its bar", x.item(599, 0), 14);
        due("it lasts", x.item(599, 7), 32);
        due("the 601st", x.item(600, 0), NONE);
    }

    static void p22_item_whatFrom0To14() {
        for (int what : new int[] {-1, -2, LOW, LOW + 1, 15, 16, HIGH - 1, HIGH}) {
            dueRefused("item(3, " + what + ")", TellEdgeTests::oneOfEach, x -> x.item(3, what), RANGE);
            due("item(0, " + what + ")", oneOfEach().item(0, what), RANGE);
        }
    }

    static void p22_item_noneComesBeforeRange() {
        for (int i : new int[] {-1, 5, LOW, HIGH}) {
            for (int what : new int[] {-1, 15, LOW, HIGH}) {
                due("item(" + i + ", " + what + ")", oneOfEach().item(i, what), NONE);
            }
        }
    }

    // ---- 23 loose

    private static void dueLoose(String row, int want) {
        due("loose() of " + row, reading(row).loose(), want);
    }

    static void p23_loose_withoutItems() {
        due("a new object", new Counted().loose(), 0);
        due("an empty voice", emptyVoice().loose(), 0);
    }

    static void p23_loose_notTied() {
        dueLoose("5 1345 135", 0);
        dueLoose("136 136", 0);
    }

    static void p23_loose_nothingAtAllComes() {
        dueLoose("5 13456 4 14", 1);
        dueLoose("5 13456 4 14 _ 2356", 1);
        Counted x = reading("5 13456 4 14");
        x.bar(false);
        due("an empty voice comes", x.loose(), 1);
    }

    static void p23_loose_aNoteOfItsPitchComes() {
        dueLoose("5 1345 4 14 1345", 0);
        dueLoose("5 1345 4 14 146 1345", 0);
        dueLoose("146 5 1345 4 14 126 1345 34", 0);
        dueLoose("5 13456 4 14 _ 13456", 0);
        dueLoose("5 13456 4 14 / 5 13456", 0);
        dueLoose("5 13456 4 14 126 345 5 13456", 0);
        dueLoose("5 13456 4 14 _ 2356 _ 5 13456", 0);
    }

    static void p23_loose_aNoteOfAnotherPitchComes() {
        dueLoose("5 1345 4 14 135", 1);
        dueLoose("5 1345 4 14 46 1345", 1);
        dueLoose("5 1345 4 14 46 1345 36", 1);
        dueLoose("5 1345 36 4 14 456 1345", 1);
    }

    static void p23_loose_aRestComes() {
        dueLoose("5 1345 4 14 136 _ 5 13456", 1);
        dueLoose("5 13456 4 14 _ 134 _ 13456", 1);
    }

    static void p23_loose_howMany() {
        dueLoose("5 1456 4 14 156 4 14 156 4 14 1456 4 14 _ 136 1345", 3);
        String bar = times(40, "13456 4 14");
        Counted x = reading(10, 4, "5 " + times(14, bar + "_") + bar);
        due("of 600 tied ones of one pitch", x.loose(), 1);
        String other = times(20, "13456 4 14 1356 4 14");
        Counted y = reading(10, 4, "5 " + times(14, other + "_") + other);
        due("of 600 tied ones of two", y.loose(), 600);
    }

    static void p23_loose_changesWithTie() {
        Counted x = reading("5 13456");
        x.tie(true);
        due("tied", x.loose(), 1);
        x.tie(false);
        due("not any more", x.loose(), 0);
    }

    // ---- 24 told

    static void p24_told_bars() {
        due("none", new Counted().told(0), 0);
        due("three", threeBars().told(0), 3);
        due("sixty", reading("134" + times(59, " _ 2356")).told(0), 60);
        due("a bar that is empty", emptyVoice().told(0), 1);
    }

    static void p24_told_items() {
        due("none", new Counted().told(1), 0);
        due("of an empty voice", emptyVoice().told(1), 0);
        due("six", threeBars().told(1), 6);
        due("600", reading(10, 4, sixHundred()).told(1), 600);
    }

    static void p24_told_length() {
        due("at first", new Counted().told(2), 512);
        due("the least", inMeter(1, 16).told(2), 32);
        due("the greatest", inMeter(4, 1).told(2), 2048);
        Counted x = inMeter(3, 4);
        x.meter(5, 1);
        due("behind a refused meter", x.told(2), 384);
    }

    static void p24_told_cells() {
        due("none", new Counted().told(3), 0);
        due("three with a 64", withRow("1 / 2").told(3), 3);
        due("4000", fullRow().told(3), 4000);
    }

    static void p24_told_hand() {
        due("none", new Counted().told(4), 0);
        due("right", reading("46 345 134").told(4), 1);
        due("left", reading("456 345 134").told(4), 2);
    }

    static void p24_told_howLongTheLastVoiceLasts() {
        Counted x = inMeter(3, 4);
        x.bar(false);
        x.note(28, 0, 2, 0, 1);
        due("192", x.told(5), 192);
        x.rest(3, 1, 2);
        due("and 7", x.told(5), 199);
        x.rest(0, 2, 0);
        due("and nothing by a refused call", x.told(5), 199);
        due("as long as the bar", reading(4, 1, "134").told(5), 2048);
        due("as long as the bar", reading(1, 16, "134").told(5), 32);
        due("the second", reading("134 126 345 136 136").told(5), 512);
    }

    static void p24_told_theLastVoiceIs0Without() {
        due("no bar", new Counted().told(5), 0);
        due("an empty voice", emptyVoice().told(5), 0);
        Counted x = reading("134");
        x.voice();
        due("an empty second voice", x.told(5), 0);
        Counted y = reading("134");
        y.bar(false);
        due("an empty voice of the next bar", y.told(5), 0);
        due("a repeated bar has none", reading("134 _ 2356").told(5), 0);
    }

    static void p24_told_whatFrom0To5() {
        Supplier<Counted> made = TellEdgeTests::threeBars;
        for (int what : new int[] {-1, -2, LOW, LOW + 1, 6, 7, HIGH - 1, HIGH}) {
            dueRefused("told(" + what + ")", made, x -> x.told(what), RANGE);
            due("told(" + what + ") of a new object", new Counted().told(what), RANGE);
        }
    }

    public static void main(String[] args) {
        runAll(TellEdgeTests.class);
    }
}
