import java.util.function.Supplier;

/** The edges of term 2 and of promises 8 to 16: meter, hand, and the making of bars, voices and items. */
public final class MakeEdgeTests extends Bench {

    // ---- music that tests begin with

    private static Counted emptyVoice() {
        Counted x = new Counted();
        x.bar(false);
        return x;
    }

    private static Counted wholeVoice() {
        Counted x = emptyVoice();
        x.note(28, 0, 0, 0, 0);
        return x;
    }

    private static Counted barRest() {
        Counted x = emptyVoice();
        x.rest(0, 2, 0);
        return x;
    }

    private static Counted repeatedBar() {
        Counted x = wholeVoice();
        x.bar(true);
        return x;
    }

    /** A voice of a bar of 32 that lasts as long as is told, by items of 4, 6 and 7. */
    private static Counted lasting(int sum) {
        Counted x = inMeter(1, 16);
        x.bar(false);
        int sevens = sum % 4 == 0 || sum % 4 == 2 ? 0 : sum % 4 == 3 ? 1 : 3;
        int sixes = sum % 4 == 2 ? 1 : 0;
        for (int i = 0; i < sevens; i++) {
            x.rest(3, 1, 2);
        }
        for (int i = 0; i < sixes; i++) {
            x.rest(3, 1, 1);
        }
        for (int i = 7 * sevens + 6 * sixes; i < sum; i += 4) {
            x.rest(3, 1, 0);
        }
        due("the voice to begin with", x.told(5), sum);
        return x;
    }

    private static Counted fortyItems() {
        Counted x = emptyVoice();
        for (int i = 0; i < 40; i++) {
            x.note(28, 0, 3, 1, 0);
        }
        return x;
    }

    private static Counted sixHundredAndAVoice() {
        Counted x = reading(10, 4, sixHundred());
        x.bar(false);
        return x;
    }

    private static Counted sixtyBars() {
        return reading("134" + times(59, " _ 2356"));
    }

    private static Counted threeVoices() {
        return reading("134 126 345 134 126 345 134");
    }

    // ---- 2 MUSIC

    static void t2_length_ofEachMeter() {
        int[] downs = {1, 2, 4, 8, 16};
        Counted x = new Counted();
        for (int up = 1; up <= 16; up++) {
            for (int down : downs) {
                int length = 512 * up / down;
                due("meter(" + up + ", " + down + ")", x.meter(up, down), length > 2048 ? RANGE : length);
            }
        }
    }

    static void t2_item_lastsByKindSizeAndDots() {
        int[][] large = {{512, 256, 128, 64}, {768, 384, 192, 96}, {896, 448, 224, 112}};
        int[][] small = {{32, 16, 8, 4}, {48, 24, 12, 6}, {56, 28, 14, 7}};
        for (int dots = 0; dots < 3; dots++) {
            for (int kind = 0; kind < 4; kind++) {
                Counted x = inMeter(4, 1);
                x.bar(false);
                x.note(28, 0, kind, 0, dots);
                x.note(28, 0, kind, 1, dots);
                x.rest(kind, 0, dots);
                x.rest(kind, 1, dots);
                int want = large[dots][kind];
                int wantSmall = small[dots][kind];
                dueText("KIND " + kind + " with " + dots, all(x, 7), want + " " + wantSmall + " " + want + " " + wantSmall);
                due("together", x.told(5), 2 * (want + wantSmall));
            }
        }
    }

    static void t2_barRest_lastsAsLongAsTheBar() {
        int[][] meters = {{1, 16, 32}, {3, 4, 384}, {4, 4, 512}, {4, 1, 2048}};
        for (int[] m : meters) {
            Counted x = inMeter(m[0], m[1]);
            x.bar(false);
            x.rest(0, 2, 0);
            due("it lasts", x.item(0, 7), m[2]);
            due("the voice lasts", x.told(5), m[2]);
            due("it is whole", x.bar(false), 1);
        }
    }

    /** By bars, by voices, and as they stand. */
    static void t2_items_areNumbered() {
        Counted x = reading("136 136 126 345 134 126 345 136 1236 1236 _ 2356 _ 134 _ 136 136");
        dueText("bars", all(x, 0), "0 0 0 0 0 0 2 3 3");
        dueText("voices", all(x, 1), "0 0 1 2 2 2 0 0 0");
        dueText("kinds", all(x, 4), "1 1 0 1 2 2 0 1 1");
    }

    static void t2_noVoiceLastsLongerThanItsBar() {
        for (int sum = 28; sum <= 32; sum++) {
            int before = sum;
            Counted x = lasting(before);
            due("4 more than " + sum, x.rest(3, 1, 0) >= 0 ? 1 : 0, sum + 4 <= 32 ? 1 : 0);
            due("it lasts", x.told(5), sum + 4 <= 32 ? sum + 4 : sum);
        }
    }

    // ---- 8 meter

    static void p08_meter_upFrom1() {
        due("meter(1, 4)", new Counted().meter(1, 4), 128);
        due("meter(1, 16)", new Counted().meter(1, 16), 32);
        for (int up : new int[] {0, -1, -4, -16, LOW, LOW + 1}) {
            dueRefused("meter(" + up + ", 4)", Counted::new, x -> x.meter(up, 4), RANGE);
        }
    }

    static void p08_meter_upTo16() {
        due("meter(16, 16)", new Counted().meter(16, 16), 512);
        due("meter(16, 4)", new Counted().meter(16, 4), 2048);
        for (int up : new int[] {17, 18, 32, 64, HIGH - 1, HIGH}) {
            dueRefused("meter(" + up + ", 16)", Counted::new, x -> x.meter(up, 16), RANGE);
        }
    }

    static void p08_meter_downIsOneOfFive() {
        for (int down = -20; down <= 40; down++) {
            boolean told = down == 1 || down == 2 || down == 4 || down == 8 || down == 16;
            due("meter(2, " + down + ")", new Counted().meter(2, down), told ? 1024 / down : RANGE);
        }
        for (int down : new int[] {LOW, LOW + 1, HIGH - 1, HIGH, 64, 256, 512, 1024, 1 << 30, -1, 0}) {
            dueRefused("meter(1, " + down + ")", Counted::new, x -> x.meter(1, down), RANGE);
        }
    }

    static void p08_meter_lengthUpTo2048() {
        int[][] last = {{4, 1}, {8, 2}, {16, 4}};
        for (int[] m : last) {
            Counted x = new Counted();
            due("meter(" + m[0] + ", " + m[1] + ")", x.meter(m[0], m[1]), 2048);
            due("LENGTH", x.told(2), 2048);
        }
        int[][] first = {{5, 1}, {9, 2}, {16, 1}, {16, 2}, {10, 2}, {6, 1}};
        for (int[] m : first) {
            dueRefused("meter(" + m[0] + ", " + m[1] + ")", Counted::new, x -> x.meter(m[0], m[1]), RANGE);
        }
    }

    static void p08_meter_leastAndGreatestOfBoth() {
        int[] ends = {LOW, HIGH};
        for (int up : ends) {
            for (int down : ends) {
                dueRefused("meter(" + up + ", " + down + ")", Counted::new, x -> x.meter(up, down), RANGE);
            }
        }
    }

    static void p08_meter_withBarsIsState() {
        dueRefused("an empty voice", MakeEdgeTests::emptyVoice, x -> x.meter(3, 4), STATE);
        dueRefused("a whole voice", MakeEdgeTests::wholeVoice, x -> x.meter(3, 4), STATE);
        dueRefused("a repeated bar", MakeEdgeTests::repeatedBar, x -> x.meter(4, 4), STATE);
        dueRefused("bars that were read", () -> reading("134"), x -> x.meter(4, 4), STATE);
    }

    static void p08_meter_rangeComesBeforeState() {
        dueRefused("up", MakeEdgeTests::wholeVoice, x -> x.meter(0, 4), RANGE);
        dueRefused("down", MakeEdgeTests::wholeVoice, x -> x.meter(4, 3), RANGE);
        dueRefused("LENGTH", MakeEdgeTests::wholeVoice, x -> x.meter(5, 1), RANGE);
    }

    static void p08_meter_withoutBarsItCanChange() {
        Counted x = withRow("134 _ 134");
        due("once", x.meter(3, 4), 384);
        due("twice", x.meter(3, 8), 192);
        x.bar(false);
        due("192", x.note(28, 0, 2, 0, 1), 0);
        due("is whole", x.voice(), 1);
    }

    // ---- 9 hand

    static void p09_hand_0to2() {
        Counted x = new Counted();
        due("hand(0)", x.hand(0), 0);
        due("hand(1)", x.hand(1), 0);
        due("hand(2)", x.hand(2), 1);
        due("hand(2)", x.hand(2), 2);
        due("hand(0)", x.hand(0), 2);
        due("HAND", x.told(4), 0);
    }

    static void p09_hand_othersAreRange() {
        for (int h : new int[] {-1, -2, LOW, LOW + 1, 3, 4, HIGH - 1, HIGH}) {
            dueRefused("hand(" + h + ")", () -> reading("46 345 134"), x -> x.hand(h), RANGE);
        }
    }

    static void p09_hand_highestIntervalOfTheLeft() {
        // 55 is the last, 56 is none.
        due("61", reading("6 2346 36 34").hand(2), STATE);
        due("55", reading("6 2346 34").hand(2), 0);
        due("55", reading("6 13456 25").hand(2), 0);
        dueRefused("56", () -> reading("6 1356 25"), x -> x.hand(2), STATE);
        dueRefused("56", () -> reading("46 345 6 23456 34"), x -> x.hand(2), STATE);
    }

    static void p09_hand_lowestIntervalOfTheRightAndOfNone() {
        for (int h = 0; h < 2; h++) {
            int hand = h;
            due("7", reading("456 345 4 1356 34").hand(hand), 2);
            due("7", reading("456 345 45 13456 36").hand(hand), 2);
            dueRefused("6", () -> reading("456 345 4 13456 34"), x -> x.hand(hand), STATE);
            dueRefused("6", () -> reading("456 345 4 23456 36"), x -> x.hand(hand), STATE);
        }
    }

    static void p09_hand_anyIntervalOfAnyNoteIsState() {
        dueRefused("the first of four", () -> reading("6 1356 25 34 34 34"), x -> x.hand(2), STATE);
        dueRefused("the last of four", () -> reading("6 1356 34 34 34 25"), x -> x.hand(2), STATE);
        dueRefused("of the first note", () -> reading("6 1356 25 _ 4 1356 34"), x -> x.hand(2), STATE);
        dueRefused("of the last note", () -> reading("4 1356 34 _ 6 1356 25"), x -> x.hand(2), STATE);
        dueRefused("of the 600th item", () -> reading(10, 4, times(14, times(40, "134") + "_") + times(39, "134")
            + "6 23456 34"), x -> x.hand(2), STATE);
    }

    static void p09_hand_asItIsAndBetweenNoneAndRightAlwaysGoes() {
        due("2 again", reading("456 345 4 13456 36").hand(2), 2);
        due("1 of 0", reading("6 23456 36").hand(1), 0);
        due("0 of 1", reading("46 345 6 23456 36").hand(0), 1);
        due("without intervals", reading("6 23456").hand(2), 0);
    }

    static void p09_hand_rangeComesBeforeState() {
        for (int h : new int[] {-1, 3, LOW, HIGH}) {
            dueRefused("hand(" + h + ")", () -> reading("6 23456 34"), x -> x.hand(h), RANGE);
        }
    }

    // ---- 10 bar

    static void p10_bar_isNumberedFrom0() {
        Counted x = new Counted();
        due("the first", x.bar(false), 0);
        x.rest(0, 2, 0);
        due("the second", x.bar(true), 1);
        due("the third", x.bar(false), 2);
    }

    static void p10_bar_hasAnEmptyVoice() {
        Counted x = emptyVoice();
        due("voices", x.barOf(0, 0), 1);
        due("items", x.barOf(0, 2), 0);
        due("it lasts", x.told(5), 0);
    }

    static void p10_bar_repeatedHasNoVoice() {
        Counted x = repeatedBar();
        due("voices", x.barOf(1, 0), 0);
        due("items", x.barOf(1, 2), 0);
        due("bars", x.told(0), 2);
    }

    static void p10_bar_behindAnEmptyVoiceIsState() {
        dueRefused("bar(false)", MakeEdgeTests::emptyVoice, x -> x.bar(false), STATE);
        dueRefused("bar(true)", MakeEdgeTests::emptyVoice, x -> x.bar(true), STATE);
    }

    static void p10_bar_behindAVoiceThatIsNotWholeIsState() {
        for (int sum : new int[] {4, 16, 28, 29, 30, 31}) {
            dueRefused("bar(false) behind " + sum + " of 32", () -> lasting(sum), x -> x.bar(false), STATE);
            dueRefused("bar(true) behind " + sum + " of 32", () -> lasting(sum), x -> x.bar(true), STATE);
        }
        due("behind 32 of 32", lasting(32).bar(false), 1);
        due("behind 32 of 32", lasting(32).bar(true), 1);
    }

    static void p10_bar_behindALaterVoiceThatIsNotWholeIsState() {
        Supplier<Counted> second = () -> {
            Counted x = wholeVoice();
            x.voice();
            return x;
        };
        Supplier<Counted> third = () -> {
            Counted x = second.get();
            x.rest(0, 2, 0);
            x.voice();
            x.note(28, 0, 1, 0, 2);
            return x;
        };
        dueRefused("an empty second", second, x -> x.bar(false), STATE);
        dueRefused("a third that lacks 64", third, x -> x.bar(true), STATE);
        Counted x = third.get();
        x.rest(3, 0, 0);
        due("a whole third", x.bar(false), 1);
    }

    static void p10_bar_repeatedAndTheFirstIsState() {
        dueRefused("the first", Counted::new, x -> x.bar(true), STATE);
        dueRefused("the first, a row being there", () -> withRow("134"), x -> x.bar(true), STATE);
        due("the second", wholeVoice().bar(true), 1);
        due("behind a repeated one", repeatedBar().bar(true), 2);
    }

    static void p10_bar_the60thHasRoom() {
        Counted x = reading("134" + times(58, " _ 2356"));
        due("the 60th", x.bar(false), 59);
        x = reading("134" + times(58, " _ 2356"));
        due("the 60th, repeated", x.bar(true), 59);
        x = reading(times(58, "134 _") + "134");
        due("the 60th behind 59 with a voice", x.bar(false), 59);
    }

    static void p10_bar_the61stIsFull() {
        dueRefused("bar(false)", MakeEdgeTests::sixtyBars, x -> x.bar(false), FULL);
        dueRefused("bar(true)", MakeEdgeTests::sixtyBars, x -> x.bar(true), FULL);
        dueRefused("of bars with a voice", () -> reading(times(59, "134 _") + "134"), x -> x.bar(false), FULL);
    }

    static void p10_bar_stateComesBeforeFull() {
        Supplier<Counted> made = () -> {
            Counted x = reading("134" + times(58, " _ 2356"));
            x.bar(false);
            return x;
        };
        dueRefused("bar(false)", made, x -> x.bar(false), STATE);
        dueRefused("bar(true)", made, x -> x.bar(true), STATE);
    }

    static void p10_bar_with600Items() {
        due("bar(false)", reading(10, 4, sixHundred()).bar(false), 15);
        due("bar(true)", reading(10, 4, sixHundred()).bar(true), 15);
    }

    // ---- 11 voice

    static void p11_voice_secondAndThird() {
        Counted x = wholeVoice();
        due("the second", x.voice(), 1);
        due("it is empty", x.told(5), 0);
        x.rest(0, 2, 0);
        due("the third", x.voice(), 2);
        due("voices", x.barOf(0, 0), 3);
        due("items", x.barOf(0, 2), 2);
    }

    static void p11_voice_theFourthIsFull() {
        dueRefused("voice()", MakeEdgeTests::threeVoices, Counted::voice, FULL);
    }

    static void p11_voice_ofEachBarThree() {
        Counted x = threeVoices();
        x.bar(false);
        x.rest(0, 2, 0);
        due("the second of the next bar", x.voice(), 1);
    }

    static void p11_voice_withoutABarIsState() {
        dueRefused("voice()", Counted::new, Counted::voice, STATE);
    }

    static void p11_voice_ofARepeatedBarIsState() {
        dueRefused("voice()", MakeEdgeTests::repeatedBar, Counted::voice, STATE);
        dueRefused("behind three voices", () -> reading("134 126 345 134 126 345 134 _ 2356"), Counted::voice, STATE);
    }

    static void p11_voice_behindOneThatIsNotWholeIsState() {
        dueRefused("an empty one", MakeEdgeTests::emptyVoice, Counted::voice, STATE);
        for (int sum : new int[] {4, 16, 28, 29, 30, 31}) {
            dueRefused("one of " + sum + " of 32", () -> lasting(sum), Counted::voice, STATE);
        }
        due("one of 32", lasting(32).voice(), 1);
    }

    static void p11_voice_stateComesBeforeFull() {
        dueRefused("the third is empty", () -> {
            Counted x = reading("134 126 345 134");
            x.voice();
            return x;
        }, Counted::voice, STATE);
    }

    static void p11_voice_with600Items() {
        due("voice()", reading(10, 4, sixHundred()).voice(), 1);
    }

    // ---- 12 note

    private static final int[] BELOW_0 = {-1, -2, LOW, LOW + 1};

    static void p12_note_isNumbered() {
        Counted x = emptyVoice();
        due("the first", x.note(28, 0, 1, 0, 0), 0);
        due("the second", x.note(28, 0, 1, 0, 0), 1);
        x.voice();
        due("the third", x.note(28, 0, 0, 0, 0), 2);
        x.bar(true);
        x.bar(false);
        due("the fourth", x.note(28, 0, 0, 0, 0), 3);
    }

    static void p12_note_pitchFrom7() {
        Counted x = emptyVoice();
        due("7", x.note(7, 0, 0, 0, 0), 0);
        due("it", x.item(0, 2), 7);
        for (int pitch : new int[] {6, 5, 0, -1, -7, -55, LOW, LOW + 1}) {
            dueRefused("PITCH " + pitch, MakeEdgeTests::emptyVoice, y -> y.note(pitch, 0, 0, 0, 0), RANGE);
        }
    }

    static void p12_note_pitchTo55() {
        Counted x = emptyVoice();
        due("55", x.note(55, 0, 0, 0, 0), 0);
        due("it", x.item(0, 2), 55);
        for (int pitch : new int[] {56, 57, 62, 63, HIGH - 1, HIGH}) {
            dueRefused("PITCH " + pitch, MakeEdgeTests::emptyVoice, y -> y.note(pitch, 0, 0, 0, 0), RANGE);
        }
    }

    static void p12_note_signFrom0To3() {
        for (int sign = 0; sign <= 3; sign++) {
            Counted x = emptyVoice();
            due("SIGN " + sign, x.note(28, sign, 0, 0, 0), 0);
            due("it", x.item(0, 3), sign);
        }
        for (int sign : BELOW_0) {
            dueRefused("SIGN " + sign, MakeEdgeTests::emptyVoice, x -> x.note(28, sign, 0, 0, 0), RANGE);
        }
        for (int sign : new int[] {4, 5, HIGH - 1, HIGH}) {
            dueRefused("SIGN " + sign, MakeEdgeTests::emptyVoice, x -> x.note(28, sign, 0, 0, 0), RANGE);
        }
    }

    static void p12_note_kindFrom0To3() {
        for (int kind = 0; kind <= 3; kind++) {
            Counted x = emptyVoice();
            due("KIND " + kind, x.note(28, 0, kind, 0, 0), 0);
            due("it", x.item(0, 4), kind);
        }
        for (int kind : BELOW_0) {
            dueRefused("KIND " + kind, MakeEdgeTests::emptyVoice, x -> x.note(28, 0, kind, 0, 0), RANGE);
        }
        for (int kind : new int[] {4, 5, HIGH - 1, HIGH}) {
            dueRefused("KIND " + kind, MakeEdgeTests::emptyVoice, x -> x.note(28, 0, kind, 0, 0), RANGE);
        }
    }

    static void p12_note_size0And1() {
        for (int size = 0; size <= 1; size++) {
            Counted x = emptyVoice();
            due("SIZE " + size, x.note(28, 0, 0, size, 0), 0);
            due("it", x.item(0, 5), size);
        }
        for (int size : BELOW_0) {
            dueRefused("SIZE " + size, MakeEdgeTests::emptyVoice, x -> x.note(28, 0, 0, size, 0), RANGE);
        }
        for (int size : new int[] {2, 3, HIGH - 1, HIGH}) {
            dueRefused("SIZE " + size, MakeEdgeTests::emptyVoice, x -> x.note(28, 0, 0, size, 0), RANGE);
        }
    }

    static void p12_note_dotsFrom0To2() {
        for (int dots = 0; dots <= 2; dots++) {
            Counted x = emptyVoice();
            due("DOTS " + dots, x.note(28, 0, 1, 0, dots), 0);
            due("it", x.item(0, 6), dots);
        }
        for (int dots : BELOW_0) {
            dueRefused("DOTS " + dots, MakeEdgeTests::emptyVoice, x -> x.note(28, 0, 1, 0, dots), RANGE);
        }
        for (int dots : new int[] {3, 4, HIGH - 1, HIGH}) {
            dueRefused("DOTS " + dots, MakeEdgeTests::emptyVoice, x -> x.note(28, 0, 1, 0, dots), RANGE);
        }
    }

    static void p12_note_leastAndGreatestOfAll() {
        dueRefused("the least", MakeEdgeTests::emptyVoice, x -> x.note(LOW, LOW, LOW, LOW, LOW), RANGE);
        dueRefused("the greatest", MakeEdgeTests::emptyVoice, x -> x.note(HIGH, HIGH, HIGH, HIGH, HIGH), RANGE);
    }

    static void p12_note_isNeitherTiedNorSlurredAndHasNoIntervals() {
        Counted x = reading("5 13456 34 34 34 34 4 14 14");
        x.bar(false);
        x.note(28, 0, 0, 0, 0);
        for (int what = 8; what < 15; what++) {
            due("item(1, " + what + ")", x.item(1, what), 0);
        }
    }

    static void p12_note_withoutABarIsState() {
        dueRefused("note", Counted::new, x -> x.note(28, 0, 3, 1, 0), STATE);
    }

    static void p12_note_behindARepeatedBarIsState() {
        dueRefused("note", MakeEdgeTests::repeatedBar, x -> x.note(28, 0, 3, 1, 0), STATE);
    }

    static void p12_note_behindABarRestIsState() {
        dueRefused("note", MakeEdgeTests::barRest, x -> x.note(28, 0, 3, 1, 0), STATE);
        Counted x = barRest();
        x.voice();
        due("in the next voice", x.note(28, 0, 3, 1, 0), 1);
    }

    static void p12_note_justAsLongAsTheBar() {
        due("512 of 512", emptyVoice().note(28, 0, 0, 0, 0), 0);
        due("4 behind 28 of 32", lasting(28).note(28, 0, 3, 1, 0) >= 0 ? 1 : 0, 1);
        due("6 behind 26 of 32", lasting(26).note(28, 0, 3, 1, 1) >= 0 ? 1 : 0, 1);
        due("7 behind 25 of 32", lasting(25).note(28, 0, 3, 1, 2) >= 0 ? 1 : 0, 1);
    }

    static void p12_note_longerThanTheBarIsState() {
        dueRefused("768 of 512", MakeEdgeTests::emptyVoice, x -> x.note(28, 0, 0, 0, 1), STATE);
        dueRefused("64 of 32", () -> lasting(0), x -> x.note(28, 0, 3, 0, 0), STATE);
        dueRefused("4 behind 29 of 32", () -> lasting(29), x -> x.note(28, 0, 3, 1, 0), STATE);
        dueRefused("6 behind 27 of 32", () -> lasting(27), x -> x.note(28, 0, 3, 1, 1), STATE);
        dueRefused("7 behind 26 of 32", () -> lasting(26), x -> x.note(28, 0, 3, 1, 2), STATE);
        dueRefused("4 behind 32 of 32", () -> lasting(32), x -> x.note(28, 0, 3, 1, 0), STATE);
    }

    static void p12_note_the40thHasRoom() {
        Counted x = emptyVoice();
        for (int i = 0; i < 39; i++) {
            x.rest(3, 1, 0);
        }
        due("the 40th", x.note(28, 0, 3, 1, 0), 39);
    }

    static void p12_note_the41stIsFull() {
        dueRefused("note", MakeEdgeTests::fortyItems, x -> x.note(28, 0, 3, 1, 0), FULL);
    }

    static void p12_note_ofEachVoiceForty() {
        Counted x = reading(10, 4, times(40, "134"));
        x.voice();
        for (int i = 0; i < 40; i++) {
            due("of the next voice", x.note(28, 0, 0, 1, 0), 40 + i);
        }
        due("of both", x.barOf(0, 2), 80);
        due("the 41st", x.note(28, 0, 3, 1, 0), STATE);
    }

    static void p12_note_the600thHasRoom() {
        Counted x = reading(10, 4, times(14, times(40, "134") + "_") + times(38, "134 _") + "134");
        due("items", x.told(1), 599);
        x.bar(false);
        due("the 600th", x.note(28, 0, 0, 1, 0), 599);
        due("the 601st", x.note(28, 0, 0, 1, 0), FULL);
    }

    static void p12_note_the601stIsFull() {
        dueRefused("note", MakeEdgeTests::sixHundredAndAVoice, x -> x.note(28, 0, 3, 1, 0), FULL);
    }

    static void p12_note_rangeComesBeforeState() {
        dueRefused("no bar", Counted::new, x -> x.note(6, 0, 0, 0, 0), RANGE);
        dueRefused("repeated", MakeEdgeTests::repeatedBar, x -> x.note(28, 4, 0, 0, 0), RANGE);
        dueRefused("a bar rest", MakeEdgeTests::barRest, x -> x.note(28, 0, 4, 0, 0), RANGE);
        dueRefused("too long", MakeEdgeTests::wholeVoice, x -> x.note(28, 0, 0, 2, 0), RANGE);
        dueRefused("too long", MakeEdgeTests::wholeVoice, x -> x.note(28, 0, 0, 0, 3), RANGE);
    }

    static void p12_note_stateComesBeforeFull() {
        dueRefused("the 41st is too long", MakeEdgeTests::fortyItems, x -> x.note(28, 0, 0, 0, 0), STATE);
        dueRefused("the 41st of a whole voice", () -> reading(10, 4, times(40, "134")),
            x -> x.note(28, 0, 3, 1, 0), STATE);
        dueRefused("the 601st of a whole voice", () -> reading(10, 4, sixHundred()),
            x -> x.note(28, 0, 3, 1, 0), STATE);
        dueRefused("the 601st behind a repeated bar", () -> reading(10, 4, sixHundred() + " _ 2356"),
            x -> x.note(28, 0, 3, 1, 0), STATE);
    }

    static void p12_note_rangeComesBeforeFull() {
        dueRefused("the 41st", MakeEdgeTests::fortyItems, x -> x.note(56, 0, 3, 1, 0), RANGE);
        dueRefused("the 601st", MakeEdgeTests::sixHundredAndAVoice, x -> x.note(28, 0, 3, 2, 0), RANGE);
    }

    // ---- 13 rest

    static void p13_rest_kindFrom0To3() {
        for (int kind = 0; kind <= 3; kind++) {
            Counted x = emptyVoice();
            due("KIND " + kind, x.rest(kind, 0, 0), 0);
            due("it", x.item(0, 4), kind);
            due("no PITCH", x.item(0, 2), NONE);
        }
        for (int kind : new int[] {-1, LOW, 4, HIGH}) {
            dueRefused("KIND " + kind, MakeEdgeTests::emptyVoice, x -> x.rest(kind, 0, 0), RANGE);
        }
    }

    static void p13_rest_size0To2() {
        for (int size = 0; size <= 2; size++) {
            Counted x = emptyVoice();
            due("SIZE " + size, x.rest(0, size, 0), 0);
            due("it", x.item(0, 5), size);
        }
        for (int size : new int[] {-1, -2, LOW, 3, 4, HIGH}) {
            dueRefused("SIZE " + size, MakeEdgeTests::emptyVoice, x -> x.rest(0, size, 0), RANGE);
        }
    }

    static void p13_rest_dotsFrom0To2() {
        for (int dots = 0; dots <= 2; dots++) {
            Counted x = emptyVoice();
            due("DOTS " + dots, x.rest(1, 0, dots), 0);
            due("it", x.item(0, 6), dots);
        }
        for (int dots : new int[] {-1, LOW, 3, 4, HIGH}) {
            dueRefused("DOTS " + dots, MakeEdgeTests::emptyVoice, x -> x.rest(1, 0, dots), RANGE);
        }
    }

    static void p13_rest_leastAndGreatestOfAll() {
        dueRefused("the least", MakeEdgeTests::emptyVoice, x -> x.rest(LOW, LOW, LOW), RANGE);
        dueRefused("the greatest", MakeEdgeTests::emptyVoice, x -> x.rest(HIGH, HIGH, HIGH), RANGE);
    }

    static void p13_rest_aBarRestOfAnotherKindOrWithDotsIsRange() {
        for (int kind = 1; kind <= 3; kind++) {
            int wrong = kind;
            dueRefused("KIND " + kind, MakeEdgeTests::emptyVoice, x -> x.rest(wrong, 2, 0), RANGE);
        }
        for (int dots = 1; dots <= 2; dots++) {
            int wrong = dots;
            dueRefused("DOTS " + dots, MakeEdgeTests::emptyVoice, x -> x.rest(0, 2, wrong), RANGE);
        }
        dueRefused("KIND 4", MakeEdgeTests::emptyVoice, x -> x.rest(4, 2, 0), RANGE);
        dueRefused("DOTS 3", MakeEdgeTests::emptyVoice, x -> x.rest(0, 2, 3), RANGE);
    }

    static void p13_rest_withoutABarIsState() {
        dueRefused("a rest", Counted::new, x -> x.rest(3, 1, 0), STATE);
        dueRefused("a bar rest", Counted::new, x -> x.rest(0, 2, 0), STATE);
    }

    static void p13_rest_behindARepeatedBarIsState() {
        dueRefused("a rest", MakeEdgeTests::repeatedBar, x -> x.rest(3, 1, 0), STATE);
        dueRefused("a bar rest", MakeEdgeTests::repeatedBar, x -> x.rest(0, 2, 0), STATE);
    }

    static void p13_rest_behindABarRestIsState() {
        dueRefused("a rest", MakeEdgeTests::barRest, x -> x.rest(3, 1, 0), STATE);
        dueRefused("a bar rest", MakeEdgeTests::barRest, x -> x.rest(0, 2, 0), STATE);
    }

    static void p13_rest_longerThanTheBarIsState() {
        due("4 behind 28 of 32", lasting(28).rest(3, 1, 0) >= 0 ? 1 : 0, 1);
        dueRefused("4 behind 29 of 32", () -> lasting(29), x -> x.rest(3, 1, 0), STATE);
        dueRefused("7 behind 26 of 32", () -> lasting(26), x -> x.rest(3, 1, 2), STATE);
        dueRefused("768 of 512", MakeEdgeTests::emptyVoice, x -> x.rest(0, 0, 1), STATE);
        dueRefused("KIND 0 LARGE of 32", () -> lasting(0), x -> x.rest(0, 0, 0), STATE);
    }

    static void p13_rest_aBarRestBehindItemsIsState() {
        dueRefused("behind 4 of 32", () -> lasting(4), x -> x.rest(0, 2, 0), STATE);
        dueRefused("behind a whole voice", MakeEdgeTests::wholeVoice, x -> x.rest(0, 2, 0), STATE);
        Counted x = wholeVoice();
        x.voice();
        due("in the next voice", x.rest(0, 2, 0), 1);
    }

    static void p13_rest_the40thHasRoomAndThe41stIsFull() {
        Counted x = emptyVoice();
        for (int i = 0; i < 40; i++) {
            due("rest " + i, x.rest(3, 1, 0), i);
        }
        due("the 41st", x.rest(3, 1, 0), FULL);
        dueRefused("the 41st", MakeEdgeTests::fortyItems, y -> y.rest(3, 1, 0), FULL);
    }

    static void p13_rest_the601stIsFull() {
        dueRefused("a rest", MakeEdgeTests::sixHundredAndAVoice, x -> x.rest(3, 1, 0), FULL);
        dueRefused("a bar rest", MakeEdgeTests::sixHundredAndAVoice, x -> x.rest(0, 2, 0), FULL);
        Counted x = reading(10, 4, times(14, times(40, "134") + "_") + times(38, "134 _") + "134");
        x.bar(false);
        due("the 600th", x.rest(0, 2, 0), 599);
    }

    static void p13_rest_rangeComesBeforeState() {
        dueRefused("no bar", Counted::new, x -> x.rest(4, 0, 0), RANGE);
        dueRefused("repeated", MakeEdgeTests::repeatedBar, x -> x.rest(0, 3, 0), RANGE);
        dueRefused("a bar rest", MakeEdgeTests::barRest, x -> x.rest(1, 2, 0), RANGE);
        dueRefused("too long", MakeEdgeTests::wholeVoice, x -> x.rest(0, 2, 1), RANGE);
    }

    static void p13_rest_stateComesBeforeFull() {
        dueRefused("the 41st is a bar rest", MakeEdgeTests::fortyItems, x -> x.rest(0, 2, 0), STATE);
        dueRefused("the 41st is too long", MakeEdgeTests::fortyItems, x -> x.rest(0, 0, 0), STATE);
        dueRefused("the 601st of a whole voice", () -> reading(10, 4, sixHundred()), x -> x.rest(0, 2, 0), STATE);
    }

    static void p13_rest_rangeComesBeforeFull() {
        dueRefused("the 41st", MakeEdgeTests::fortyItems, x -> x.rest(3, 1, 3), RANGE);
        dueRefused("the 601st", MakeEdgeTests::sixHundredAndAVoice, x -> x.rest(0, 2, 1), RANGE);
    }

    // ---- 14 interval

    static void p14_interval_from2To8() {
        for (int n = 2; n <= 8; n++) {
            Counted x = wholeVoice();
            due("interval(" + n + ", 0)", x.interval(n, 0), 1);
            due("it", x.item(0, 11), n);
        }
        for (int n : new int[] {1, 0, -1, -2, -8, LOW, LOW + 1, 9, 10, 16, 18, HIGH - 1, HIGH}) {
            dueRefused("interval(" + n + ", 0)", MakeEdgeTests::wholeVoice, x -> x.interval(n, 0), RANGE);
        }
    }

    static void p14_interval_signFrom0To3() {
        for (int sign = 0; sign <= 3; sign++) {
            Counted x = wholeVoice();
            due("SIGN " + sign, x.interval(5, sign), 1);
            due("it", x.item(0, 11), 5 + 16 * sign);
        }
        for (int sign : new int[] {-1, -2, LOW, 4, 5, HIGH}) {
            dueRefused("SIGN " + sign, MakeEdgeTests::wholeVoice, x -> x.interval(5, sign), RANGE);
        }
    }

    static void p14_interval_leastAndGreatestOfBoth() {
        dueRefused("the least", MakeEdgeTests::wholeVoice, x -> x.interval(LOW, LOW), RANGE);
        dueRefused("the greatest", MakeEdgeTests::wholeVoice, x -> x.interval(HIGH, HIGH), RANGE);
    }

    private static Counted noteOf(int pitch, int hand) {
        Counted x = new Counted();
        x.hand(hand);
        x.bar(false);
        x.note(pitch, 0, 0, 0, 0);
        return x;
    }

    static void p14_interval_downToPitch7() {
        for (int h = 0; h <= 1; h++) {
            int hand = h;
            for (int n = 2; n <= 8; n++) {
                int number = n;
                due("7", noteOf(7 + n - 1, hand).interval(n, 0), 1);
                due("6", noteOf(7 + n - 2, hand).interval(n, 0), STATE);
                due("above does not matter", noteOf(55, hand).interval(n, 0), 1);
                dueRefused("6", () -> noteOf(7 + number - 2, hand), x -> x.interval(number, 0), STATE);
            }
        }
    }

    static void p14_interval_withTheLeftHandUpToPitch55() {
        for (int n = 2; n <= 8; n++) {
            int number = n;
            due("55", noteOf(55 - n + 1, 2).interval(n, 0), 1);
            due("below does not matter", noteOf(7, 2).interval(n, 0), 1);
            dueRefused("56", () -> noteOf(55 - number + 2, 2), x -> x.interval(number, 0), STATE);
        }
    }

    static void p14_interval_withoutAnItemIsState() {
        dueRefused("no bar", Counted::new, x -> x.interval(2, 0), STATE);
        dueRefused("an empty voice", MakeEdgeTests::emptyVoice, x -> x.interval(2, 0), STATE);
    }

    static void p14_interval_ofARestIsState() {
        dueRefused("a bar rest", MakeEdgeTests::barRest, x -> x.interval(2, 0), STATE);
        dueRefused("a rest behind a note", () -> {
            Counted x = emptyVoice();
            x.note(28, 0, 1, 0, 0);
            x.rest(1, 0, 0);
            return x;
        }, x -> x.interval(2, 0), STATE);
    }

    static void p14_interval_ofTheLastItemThoughABarOrVoiceBegan() {
        Counted x = wholeVoice();
        x.voice();
        due("a voice began", x.interval(2, 0), 1);
        x = wholeVoice();
        x.bar(false);
        due("a bar began", x.interval(2, 0), 1);
        x = repeatedBar();
        due("a repeated bar is behind it", x.interval(2, 0), 1);
    }

    private static Counted fourIntervals() {
        Counted x = noteOf(8, 0);
        for (int i = 0; i < 4; i++) {
            x.interval(2, i);
        }
        return x;
    }

    static void p14_interval_theFourthHasRoom() {
        Counted x = noteOf(28, 0);
        due("the first", x.interval(2, 0), 1);
        due("the second", x.interval(3, 1), 2);
        due("the third", x.interval(4, 2), 3);
        due("the fourth", x.interval(8, 3), 4);
        due("the fourth is", x.item(0, 14), 8 + 48);
    }

    static void p14_interval_theFifthIsFull() {
        dueRefused("interval", MakeEdgeTests::fourIntervals, x -> x.interval(2, 0), FULL);
        dueRefused("of a row that was read", () -> reading("5 13456 34 34 34 34"), x -> x.interval(2, 0), FULL);
    }

    static void p14_interval_ofEachNoteFour() {
        Counted x = emptyVoice();
        for (int i = 0; i < 2; i++) {
            x.note(28, 0, 1, 0, 0);
            for (int n = 1; n <= 4; n++) {
                due("of note " + i, x.interval(2, 0), n);
            }
        }
    }

    static void p14_interval_rangeComesBeforeState() {
        dueRefused("no item", Counted::new, x -> x.interval(1, 0), RANGE);
        dueRefused("no item", Counted::new, x -> x.interval(2, 4), RANGE);
        dueRefused("a rest", MakeEdgeTests::barRest, x -> x.interval(9, 0), RANGE);
        dueRefused("PITCH 6", () -> noteOf(7, 0), x -> x.interval(2, -1), RANGE);
    }

    static void p14_interval_stateComesBeforeFull() {
        dueRefused("PITCH 6", MakeEdgeTests::fourIntervals, x -> x.interval(3, 0), STATE);
    }

    static void p14_interval_rangeComesBeforeFull() {
        dueRefused("interval(9, 0)", MakeEdgeTests::fourIntervals, x -> x.interval(9, 0), RANGE);
        dueRefused("interval(2, 4)", MakeEdgeTests::fourIntervals, x -> x.interval(2, 4), RANGE);
    }

    // ---- 15 tie

    static void p15_tie_whatItWas() {
        Counted x = wholeVoice();
        due("not", x.tie(false), 0);
        due("tied", x.tie(true), 0);
        due("it is", x.item(0, 8), 1);
        due("tied again", x.tie(true), 1);
        due("no more", x.tie(false), 1);
        due("it is not", x.item(0, 8), 0);
        due("not again", x.tie(false), 0);
    }

    static void p15_tie_withoutAnItemIsState() {
        for (boolean is : new boolean[] {true, false}) {
            dueRefused("no bar", Counted::new, x -> x.tie(is), STATE);
            dueRefused("an empty voice", MakeEdgeTests::emptyVoice, x -> x.tie(is), STATE);
        }
    }

    static void p15_tie_ofARestIsState() {
        for (boolean is : new boolean[] {true, false}) {
            dueRefused("a bar rest", MakeEdgeTests::barRest, x -> x.tie(is), STATE);
            dueRefused("a rest behind a note", () -> {
                Counted x = emptyVoice();
                x.note(28, 0, 1, 0, 0);
                x.tie(!is);
                x.rest(1, 0, 0);
                return x;
            }, x -> x.tie(is), STATE);
        }
    }

    static void p15_tie_ofTheLastItemAlone() {
        Counted x = emptyVoice();
        x.note(28, 0, 1, 0, 0);
        x.note(28, 0, 1, 0, 0);
        x.tie(true);
        dueText("TIED", all(x, 8), "0 1");
        x.voice();
        due("a voice began", x.tie(false), 1);
        dueText("TIED", all(x, 8), "0 0");
    }

    static void p15_tie_ofTheLastItemThoughABarBegan() {
        Counted x = repeatedBar();
        due("a repeated bar is behind it", x.tie(true), 0);
        x.bar(false);
        due("a bar began", x.tie(true), 1);
        Counted y = reading(10, 4, times(14, times(40, "134") + "_") + times(39, "134") + "4 13456 4 14");
        due("the 600th", y.tie(false), 1);
    }

    // ---- 16 slur

    static void p16_slur_whatItWas() {
        Counted x = wholeVoice();
        due("not", x.slur(0, false), 0);
        due("slurred", x.slur(0, true), 0);
        due("it is", x.item(0, 9), 1);
        due("slurred again", x.slur(0, true), 1);
        due("no more", x.slur(0, false), 1);
        due("it is not", x.item(0, 9), 0);
    }

    static void p16_slur_aRestToo() {
        Counted x = barRest();
        due("a bar rest", x.slur(0, true), 0);
        due("it is", x.item(0, 9), 1);
    }

    static void p16_slur_firstAndLastItem() {
        Counted x = reading("136 1236 1236 _ 134");
        due("the first", x.slur(0, true), 0);
        due("the last", x.slur(3, true), 0);
        dueText("SLURRED", all(x, 9), "1 0 0 1");
        Counted y = reading(10, 4, sixHundred());
        due("the 600th", y.slur(599, true), 0);
        due("it is", y.item(599, 9), 1);
    }

    static void p16_slur_othersAreNone() {
        for (boolean is : new boolean[] {true, false}) {
            for (int i : new int[] {-1, -2, LOW, LOW + 1, 1, 2, 599, 600, HIGH - 1, HIGH}) {
                dueRefused("slur(" + i + ")", MakeEdgeTests::wholeVoice, x -> x.slur(i, is), NONE);
            }
            for (int i : new int[] {-1, 600, 601, HIGH}) {
                due("slur(" + i + ") of 600", reading(10, 4, sixHundred()).slur(i, is), NONE);
            }
        }
    }

    static void p16_slur_withoutItemsIsNone() {
        for (int i : new int[] {-1, 0, 1, LOW, HIGH}) {
            dueRefused("no bar", Counted::new, x -> x.slur(i, true), NONE);
            dueRefused("an empty voice", MakeEdgeTests::emptyVoice, x -> x.slur(i, true), NONE);
        }
    }

    static void p16_slur_ofThoseThatWereThereIsNoneAnyMore() {
        Counted x = reading("136 1236 1236");
        fill(x, "134");
        x.read();
        due("slur(1)", x.slur(1, true), NONE);
    }

    public static void main(String[] args) {
        runAll(MakeEdgeTests.class);
    }
}
