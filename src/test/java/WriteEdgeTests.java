import java.util.function.Supplier;

/** The edges of term 4 and of promises 17 to 20: how music is written, and what that depends on. */
public final class WriteEdgeTests extends Bench {

    private static Counted emptyVoice() {
        Counted x = new Counted();
        x.bar(false);
        return x;
    }

    private static Counted slurring(String row, int from, int to) {
        Counted x = reading(4, 8, row);
        for (int i = from; i <= to; i++) {
            x.slur(i, true);
        }
        return x;
    }

    private static String four() {
        return times(4, "145").trim();
    }

    private static String slurredFour() {
        return times(4, "145 14").trim();
    }

    // ---- 4 the hand and the lines

    static void t4_hand_itsSignIfItIsTold() {
        Counted x = reading("134");
        dueWritten(x, 12, "134");
        x.hand(1);
        dueWritten(x, 12, "46 345 134");
        x.hand(2);
        dueWritten(x, 12, "456 345 134");
        x.hand(0);
        dueWritten(x, 12, "134");
    }

    static void t4_hand_onceAlone() {
        Counted x = reading("46 345 134" + times(14, " _ 134"));
        dueWritten(x, 12, "46 345 134 _ 134 _ 134 _ 134 _ 134 / 134 _ 134 _ 134 _ 134 _ 134 _ 134 / 134 _ 134 _ 134 _ 134");
    }

    static void t4_line_hasWCellsAtMost() {
        String bar = times(4, "1456").trim();
        Counted x = reading("5 " + bar + times(4, " _ " + bar));
        dueWritten(x, 15, "5 " + bar + " _ " + bar + " _ " + bar + " / 5 " + bar + " _ " + bar);
        dueWritten(x, 14, "5 " + bar + " _ " + bar + " / 5 " + bar + " _ " + bar + " / 5 " + bar);
        dueWritten(x, 16, "5 " + bar + " _ " + bar + " _ " + bar + " / 5 " + bar + " _ " + bar);
        dueWritten(x, 25, "5 " + bar + times(4, " _ " + bar));
        dueWritten(x, 24, "5 " + bar + times(3, " _ " + bar) + " / 5 " + bar);
    }

    static void t4_line_theHandsSignCountsInTheFirst() {
        String bar = times(4, "1456").trim();
        Counted x = reading("46 345 5 " + bar + times(3, " _ " + bar));
        dueWritten(x, 12, "46 345 5 " + bar + " _ " + bar + " / 5 " + bar + " _ " + bar);
        x = reading("46 345 5 " + bar + " _ " + bar + " 14");
        dueWritten(x, 13, "46 345 5 " + bar + " _ " + bar + " 14");
        dueWritten(x, 12, "46 345 5 " + bar + " / 5 " + bar + " 14");
    }

    static void t4_line_repeatedBarsTakeTheirRoom() {
        Counted x = reading("134" + times(12, " _ 2356"));
        dueWritten(x, 12, "134" + times(5, " _ 2356") + " / 2356" + times(5, " _ 2356") + " / 2356");
        dueWritten(x, 13, "134" + times(6, " _ 2356") + " / 2356" + times(5, " _ 2356"));
    }

    static void t4_line_ofJustWThatEndsTheMusic() {
        Counted x = reading("134" + times(6, " _ 134"));
        dueWritten(x, 13, "134" + times(6, " _ 134"));
        dueWritten(x, 12, "134" + times(5, " _ 134") + " / 134");
    }

    // ---- 4 octave signs

    static void t4_octave_byWhereTheBarStands() {
        Counted x = reading("5 13456 _ 13456 / 5 13456");
        dueWritten(x, 12, "5 13456 _ 13456 _ 13456");
    }

    static void t4_octave_aBarMayFitOnlyBehindABlank() {
        // Twelve cells behind a BLANK; as the first of a line the second bar would have nine.
        Counted x = reading(9, 8, "5 13456 145 _ " + times(7, "145") + "1456");
        dueWritten(x, 12, "5 13456 145 _ " + times(7, "145") + "1456");
        // With a leap it wants its sign there, too.
        x = reading(9, 8, "5 13456 145 _ 46 " + times(7, "145") + "1456");
        dueWritten(x, 12, "5 13456 145 / 46 " + times(7, "145") + "1456");
    }

    static void t4_octave_restsAtALinesBeginLeaveItToTheNextNote() {
        Counted x = reading("5 " + times(8, "145") + "_ 136 136 / 134 _ 5 1345 1345");
        dueWritten(x, 12, "5 " + times(8, "145") + "_ 136 136 / 134 _ 5 1345 1345");
    }

    static void t4_octave_behindRepeatedBarsAndSeveralVoices() {
        Counted x = reading("5 13456 _ 2356 _ 134 _ 5 13456 _ 13456 126 345 134 _ 134 _ 5 13456 126 345 136 5 1345");
        dueWritten(x, 60, "5 13456 _ 2356 _ 134 _ 5 13456 _ 13456 126 345 134 _ 134 _ 5 13456 126 345 136 5 1345");
    }

    static void t4_octave_noneWhereItIsNotWanted() {
        Counted x = reading("5 1345 5 1345 _ 5 13456 _ 5 123456 _ 46 13456");
        dueWritten(x, 60, "5 1345 1345 _ 13456 _ 123456 _ 46 13456");
    }

    // ---- 4 LARGE, SMALL

    static void t4_sizes_noneIfReadWithoutTheyAreTheSame() {
        Counted x = reading(5, 16, "45 126 2 1236 6 126 2 1236 1236 1236 1236");
        dueWritten(x, 40, times(5, "1236"));
        due("signed", x.signed(0, 0), 0);
    }

    static void t4_sizes_elseAheadOfTheFirstAndOfEachChange() {
        Counted x = reading(5, 16, "6 126 2 1236 45 126 2 1236 6 126 2 1236 1236 1236");
        dueWritten(x, 40, "6 126 2 1236 45 126 2 1236 6 126 2 1236 1236 1236");
        x = reading(5, 16, "6 126 2 1236 1236 1236 1236 45 126 2 1236");
        dueWritten(x, 40, "6 126 2 1236 1236 1236 1236 45 126 2 1236");
    }

    static void t4_sizes_aRestThatIsNoBarRest() {
        dueWritten(reading("45 126 2 134"), 12, "45 126 2 134");
        dueWritten(reading(1, 16, "6 126 2 134"), 12, "6 126 2 134");
        dueWritten(reading("45 126 2 134 14"), 12, "45 126 2 134 14");
        dueWritten(reading("134"), 12, "134");
        dueWritten(reading(1, 16, "134"), 12, "134");
        dueWritten(reading(6, 4, "134 3"), 12, "134 3");
        dueWritten(reading(5, 4, "134 1236"), 12, "134 1236");
        dueWritten(reading("45 126 2 5 13456"), 12, "5 13456");
    }

    static void t4_sizes_ofTheirVoiceAlone() {
        Counted x = reading("45 126 2 134 126 345 134 _ 136 136 126 345 45 126 2 134");
        dueWritten(x, 60, "45 126 2 134 126 345 134 _ 136 136 126 345 45 126 2 134");
    }

    static void t4_sizes_ofFortyItems() {
        // 40 * 4 and 8 * 60 more: eight of forty LARGE, first as they are read, then not.
        Counted x = reading(10, 8, times(40, "1346"));
        dueText("SIZES", all(x, 5), times(8, "0") + times(32, "1").trim());
        dueWritten(x, 40, times(40, "1346"));
        String other = "6 126 2 " + times(32, "1346") + "45 126 2 " + times(8, "1346");
        dueWritten(reading(10, 8, other), 46, other);
    }

    // ---- 4 SLURS

    static void t4_slurs_ofFourItems() {
        dueWritten(slurring("5 " + four() + " _ " + four(), 0, 2), 60, "5 145 14 145 14 145 14 145 _ " + four());
        dueWritten(slurring("5 " + four() + " _ " + four(), 2, 4), 60,
            "5 145 145 145 14 145 14 _ 145 14 145 145 145");
    }

    static void t4_slurs_ofFiveItems() {
        dueWritten(slurring("5 " + four() + " _ " + four(), 0, 3), 60,
            "56 12 5 " + four() + " _ 145 45 23 145 145 145");
        dueWritten(slurring("5 " + four() + " _ " + four(), 3, 6), 60,
            "5 145 145 145 56 12 145 _ " + four() + " 45 23");
    }

    static void t4_slurs_ofOneAndOfTwoItems() {
        dueWritten(slurring("5 " + four(), 1, 1), 60, "5 145 145 14 145 145");
        dueWritten(slurring("5 " + four(), 1, 0), 60, "5 " + four());
    }

    static void t4_slurs_nothingBehindTheMusicsLastItem() {
        dueWritten(slurring("5 " + four() + " _ " + four(), 0, 7), 60, "5 " + slurredFour() + " _ " + slurredFour());
        dueWritten(slurring("5 " + four() + " _ " + four(), 3, 7), 60,
            "5 145 145 145 145 14 _ " + slurredFour());
        dueWritten(slurring("5 " + four() + " _ " + four() + " _ 2356", 3, 7), 60,
            "5 145 145 145 145 14 _ " + slurredFour() + " _ 2356");
        dueWritten(slurring("5 " + four(), 3, 3), 60, "5 145 145 145 145 14");
    }

    static void t4_slurs_upToTheMusicsLastItem() {
        dueWritten(slurring("5 " + four() + " _ " + four(), 0, 6), 60, "56 12 5 " + four() + " _ " + four() + " 45 23");
        dueWritten(slurring("5 " + four() + " _ " + four() + " _ 2356", 0, 6), 60,
            "56 12 5 " + four() + " _ " + four() + " 45 23 _ 2356");
    }

    static void t4_slurs_anotherVoiceBetween() {
        String row = "5 " + four() + " 126 345 5 " + four();
        dueWritten(slurring(row, 0, 3), 60, "5 " + slurredFour() + " 126 345 5 " + four());
        dueWritten(slurring(row, 3, 6), 60, "5 145 145 145 145 14 126 345 5 145 14 145 14 145 14 145");
        dueWritten(slurring(row, 0, 6), 60, "5 " + slurredFour() + " 126 345 5 145 14 145 14 145 14 145");
    }

    static void t4_slurs_anotherVoiceAheadOrBehind() {
        String row = "5 " + four() + " 126 345 5 " + four() + " _ 5 " + four();
        dueWritten(slurring(row, 4, 7), 60, "5 " + four() + " 126 345 56 12 5 " + four() + " _ 5 145 45 23 145 145 145");
        String other = "5 " + four() + " _ " + four() + " 126 345 5 " + four();
        dueWritten(slurring(other, 0, 6), 60,
            "56 12 5 " + four() + " _ " + four() + " 45 23 126 345 5 " + four());
        dueWritten(slurring(other, 3, 6), 60,
            "5 145 145 145 56 12 145 _ " + four() + " 45 23 126 345 5 " + four());
        dueWritten(slurring(other, 3, 7), 60,
            "5 145 145 145 145 14 _ " + slurredFour() + " 126 345 5 " + four());
    }

    static void t4_slurs_aRepeatedBarBetween() {
        String row = "5 " + four() + " _ 2356 _ 5 " + four();
        dueWritten(slurring(row, 0, 3), 60, "5 " + slurredFour() + " _ 2356 _ 5 " + four());
        dueWritten(slurring(row, 3, 6), 60, "5 145 145 145 145 14 _ 2356 _ 5 145 14 145 14 145 14 145");
    }

    static void t4_slurs_aRepeatedBarAheadOrBehind() {
        String row = "5 " + four() + " _ 2356 _ 5 " + four() + " _ " + four() + " _ 2356";
        dueWritten(slurring(row, 4, 10), 60,
            "5 " + four() + " _ 2356 _ 56 12 5 " + four() + " _ " + four() + " 45 23 _ 2356");
    }

    static void t4_slurs_overALine() {
        Counted x = slurring("5 " + four() + " _ " + four() + " _ " + four(), 0, 10);
        dueWritten(x, 12, "56 12 5 " + four() + " _ " + four() + " / 5 " + four() + " 45 23");
    }

    static void t4_slurs_behindOneAnother() {
        Counted x = slurring("5 " + four() + " _ " + four() + " _ " + four(), 0, 8);
        x.slur(4, false);
        dueWritten(x, 60, "56 12 5 " + four() + " _ 145 45 23 56 12 145 145 145 _ 145 145 45 23 145 145");
        x.slur(5, false);
        dueWritten(x, 60, "56 12 5 " + four() + " _ 145 45 23 145 145 14 145 14 _ 145 14 145 145 145");
    }

    static void t4_slurs_of600Items() {
        String row = times(19, times(30, "134") + "_") + times(30, "134").trim();
        Counted x = reading(15, 8, "56 12 " + row + " 45 23");
        due("write", x.write(200), 600 + 19 + 4);
        due("OPEN", x.at(0), 48);
        due("CLOSE", x.at(622), 6);
        x.slur(599, true);
        due("write with SLUR", x.write(200), 600 + 19 + 600);
        x.slur(599, false);
        x.slur(2, false);
        due("the first three", x.write(200), 600 + 19 + 4 + 2);
    }

    static void t4_item_inTheOrderThatIsRead() {
        String row = "45 126 2 56 12 134 _ 146 5 1345 3 126 34 36 4 14 126 1456 _ 13456 _ 13456 4 14 45 23 _ 134 14";
        dueWritten(reading(row), 60, row);
    }

    private static final String[] STEPS = {"145", "15", "124", "1245", "125", "24", "245"};
    private static final String[] KINDS = {"36", "3", "6", ""};

    private static String noteCell(int step, int kind) {
        StringBuilder dots = new StringBuilder();
        for (char dot : "123456".toCharArray()) {
            dots.append((STEPS[step] + KINDS[kind]).indexOf(dot) >= 0 ? dot : "");
        }
        return dots.toString();
    }

    static void t4_item_eachNoteCellAndOctaveSign() {
        String[] octaves = {"4", "45", "456", "5", "46", "56", "6"};
        int[] downs = {1, 2, 4, 8};
        for (int pitch = 7; pitch <= 55; pitch++) {
            for (int kind = 0; kind < 4; kind++) {
                Counted x = inMeter(1, downs[kind]);
                x.bar(false);
                x.note(pitch, 0, kind, 0, 0);
                dueWritten(x, 12, octaves[pitch / 7 - 1] + " " + noteCell(pitch % 7, kind));
            }
        }
    }

    static void t4_item_eachRestCell() {
        Counted x = reading(15, 8, "134 136 1236 1346");
        dueWritten(x, 12, "134 136 1236 1346");
        dueWritten(reading(1, 4, "1236"), 12, "1236");
    }

    static void t4_item_eachSignAndInterval() {
        String[] signs = {"", "146 ", "126 ", "16 "};
        String[] intervals = {"34", "346", "3456", "35", "356", "25", "36"};
        for (int sign = 0; sign <= 3; sign++) {
            for (int n = 2; n <= 8; n++) {
                Counted x = emptyVoice();
                x.note(28, sign, 0, 0, 0);
                x.interval(n, sign);
                x.interval(n, 0);
                dueWritten(x, 12, signs[sign] + "5 13456 " + signs[sign] + intervals[n - 2] + " " + intervals[n - 2]);
            }
        }
    }

    static void t4_item_dots() {
        dueWritten(reading(3, 4, "5 1345 3"), 12, "5 1345 3");
        dueWritten(reading(7, 8, "136 3 3"), 12, "136 3 3");
    }

    // ---- 17 write: its width and what there must be

    static void p17_write_widthFrom12() {
        due("write(12)", reading("134").write(12), 1);
        for (int w : new int[] {11, 10, 1, 0, -1, -12, LOW, LOW + 1}) {
            dueRefused("write(" + w + ")", () -> reading("134 _ 134"), x -> x.write(w), RANGE);
        }
    }

    static void p17_write_widthTo200() {
        due("write(200)", reading("134").write(200), 1);
        for (int w : new int[] {201, 202, 4000, HIGH - 1, HIGH}) {
            dueRefused("write(" + w + ")", () -> reading("134 _ 134"), x -> x.write(w), RANGE);
        }
    }

    static void p17_write_withoutBarsIsState() {
        dueRefused("a new object", Counted::new, x -> x.write(40), STATE);
        dueRefused("a row alone", () -> withRow("134"), x -> x.write(40), STATE);
    }

    static void p17_write_aVoiceThatIsNotWholeIsState() {
        dueRefused("an empty voice", WriteEdgeTests::emptyVoice, x -> x.write(40), STATE);
        dueRefused("an empty voice behind a bar", () -> {
            Counted x = reading("134");
            x.bar(false);
            return x;
        }, x -> x.write(40), STATE);
        dueRefused("an empty second voice", () -> {
            Counted x = reading("134");
            x.voice();
            return x;
        }, x -> x.write(40), STATE);
        dueRefused("one that lacks 1", () -> {
            Counted x = inMeter(1, 16);
            x.bar(false);
            x.rest(3, 1, 2);
            for (int i = 0; i < 4; i++) {
                x.rest(3, 1, 1);
            }
            return x;
        }, x -> x.write(40), STATE);
    }

    static void p17_write_behindARepeatedBar() {
        dueWritten(reading("134 _ 2356"), 12, "134 _ 2356");
    }

    static void p17_write_rangeComesBeforeState() {
        dueRefused("write(11)", Counted::new, x -> x.write(11), RANGE);
        dueRefused("write(201)", WriteEdgeTests::emptyVoice, x -> x.write(201), RANGE);
    }

    static void p17_write_theRowIsTheMusicAlone() {
        Counted x = reading("134 _ 2356 _ 2356");
        fill(x, times(50, "123456"));
        due("write", x.write(40), 5);
        dueText("the row", rowOf(x), "134 _ 2356 _ 2356");
        due("none behind it", x.at(5), NONE);
        due("read", x.read(), 3);
    }

    static void p17_write_sixtyBarsOfThreeVoices() {
        String bar = "134 126 345 134 126 345 134";
        Counted x = reading(times(59, bar + " _") + bar);
        due("write", x.write(200), 60 * 7 + 59);
        due("in one line each", x.write(12), 60 * 7 + 59);
        due("a line's end", x.at(7), 64);
        due("read", x.read(), 60);
    }

    /** A refused one leaves the row that the one before it wrote. */
    static void p17_write_refusedBehindOneThatWasNot() {
        Supplier<Counted> made = () -> {
            Counted x = reading("134 _ 5 1345 " + times(16, "1345"));
            x.write(20);
            x.write(18);
            return x;
        };
        dueText("the row", rowOf(made.get()), "134 / 5 1345 " + times(16, "1345").trim());
        dueRefused("too long", made, x -> x.write(17), -11);
        dueRefused("a wrong width", made, x -> x.write(11), RANGE);
        dueRefused("not whole", () -> {
            Counted x = made.get();
            x.bar(false);
            return x;
        }, x -> x.write(20), STATE);
    }

    static void p17_write_leavesTheMusic() {
        String row = "456 345 5 1345 126 34 4 14 14 1456 3 145 126 345 134 / 2356 _ 134";
        Supplier<Counted> made = () -> reading(row);
        Supplier<Counted> written = () -> {
            Counted x = reading(row);
            x.write(12);
            fill(x, row);
            return x;
        };
        dueText("the music behind write", look(written), look(made));
    }

    static void p17_write_whatIsWrittenIsReadAsTheSame() {
        String row = "456 345 5 1345 126 34 4 14 14 1456 3 145 126 345 134 / 2356 _ 134";
        Counted x = reading(row);
        x.write(30);
        due("read", x.read(), 3);
        Counted y = reading(row);
        for (int what = 0; what < 15; what++) {
            dueText("what " + what, all(x, what), all(y, what));
        }
    }

    // ---- 17 write: a bar that is too long

    static void p17_tooLong_theFirstBar() {
        Counted x = reading("5 1345 " + times(16, "1345"));
        due("18 cells", x.write(18), 18);
        dueRefused("18 cells in 17", () -> reading("5 1345 " + times(16, "1345")), y -> y.write(17), -10);
        dueRefused("18 cells in 12", () -> reading("5 1345 " + times(16, "1345")), y -> y.write(12), -10);
    }

    static void p17_tooLong_theFirstBarWithTheHandsSign() {
        Counted x = reading("46 345 5 1345 " + times(16, "1345"));
        due("20 cells", x.write(20), 20);
        dueRefused("20 cells in 19", () -> reading("46 345 5 1345 " + times(16, "1345")), y -> y.write(19), -10);
        x.hand(0);
        due("18 without", x.write(18), 18);
    }

    static void p17_tooLong_aLaterBar() {
        Supplier<Counted> made = () -> reading("134 / 5 1345 " + times(16, "1345"));
        due("18 cells", made.get().write(18), 20);
        dueRefused("18 cells in 17", made, x -> x.write(17), -11);
        Counted x = made.get();
        x.hand(1);
        due("the hand's sign is in the first line", x.write(18), 22);
        due("18 cells in 17", x.write(17), -11);
    }

    static void p17_tooLong_byTheOctaveSignOfALinesFirstBar() {
        // Twelve notes behind a note of the line before: twelve cells and the sign.
        Supplier<Counted> made = () -> reading(12, 8, "5 13456 1345 _ " + times(12, "145"));
        due("13 cells", made.get().write(13), 3 + 1 + 13);
        dueRefused("13 cells in 12", made, x -> x.write(12), -11);
        due("behind a BLANK", made.get().write(16), 16);
        due("not behind a BLANK", made.get().write(15), 17);
    }

    static void p17_tooLong_theFirstOfSeveral() {
        String eighteen = "5 1345 " + times(16, "1345");
        due("the second and the third", reading("134 / " + eighteen + "/ " + eighteen).write(17), -11);
        due("the fourth", reading("134 _ 134 _ 134 / " + eighteen + "/ 134").write(17), -13);
        due("the first and the second", reading(eighteen + "/ " + eighteen).write(17), -10);
    }

    static void p17_tooLong_the60thBar() {
        Supplier<Counted> made = () -> reading("134" + times(58, " _ 2356") + " _ 5 1345 " + times(16, "1345"));
        dueRefused("18 cells in 17", made, x -> x.write(17), -10 - 59);
        due("18 cells", made.get().write(18) > 0 ? 1 : 0, 1);
    }

    static void p17_tooLong_200CellsAnd201() {
        String note = "13456 36 36 36 36 ";
        String row = "5 " + times(39, note) + "13456 36 36 36";
        Counted x = reading(10, 4, row);
        due("200 cells", x.write(200), 200);
        due("200 cells in 199", x.write(199), -10);
        x.interval(8, 0);
        due("201 cells", x.write(200), -10);
        dueRefused("201 cells", () -> reading(10, 4, "5 " + times(40, note)), y -> y.write(200), -10);
    }

    static void p17_tooLong_12Cells() {
        Supplier<Counted> made = () -> reading(12, 8, times(12, "1346"));
        due("12 cells", made.get().write(12), 12);
        dueRefused("13 cells", () -> reading(12, 8, times(12, "1346") + "14"), x -> x.write(12), -10);
    }

    static void p17_tooLong_stateAndRangeComeBefore() {
        Supplier<Counted> made = () -> {
            Counted x = reading("5 1345 " + times(16, "1345"));
            x.bar(false);
            return x;
        };
        dueRefused("not whole", made, x -> x.write(12), STATE);
        dueRefused("a wrong width", made, x -> x.write(11), RANGE);
    }

    // ---- 17 write: FULL

    private static final String NOTE = "13456 36 36 36 146 36 ";

    /** 60 bars of ten notes; written a bar a line they have 3719 cells, and one more for each slur. */
    private static Counted sixtyLongBars(int slurs) {
        StringBuilder row = new StringBuilder("5 ");
        for (int i = 0; i < 600; i++) {
            row.append(i > 0 && i % 10 == 0 ? "_ " : "").append(NOTE);
            row.append(i % 2 == 0 && i / 2 < slurs ? "14 " : "");
        }
        return reading(10, 16, row.toString());
    }

    static void p17_full_justBelow4000() {
        due("3999 cells", sixtyLongBars(280).write(100), 3999);
    }

    static void p17_full_just4000() {
        Counted x = sixtyLongBars(281);
        due("4000 cells", x.write(100), 4000);
        due("told", x.told(3), 4000);
        due("the last one", x.at(3999), 36);
        due("no more", x.cell(1), FULL);
        due("read", x.read(), 60);
    }

    static void p17_full_4001() {
        dueRefused("4001 cells", () -> {
            Counted x = sixtyLongBars(281);
            x.slur(562, true);
            fill(x, "1 2 3");
            return x;
        }, x -> x.write(100), FULL);
        due("more than 4001 cells", sixtyLongBars(300).write(100), FULL);
        due("fewer lines, fewer cells", sixtyLongBars(300).write(150), 3600 + 300 + 30 + 59);
    }

    static void p17_full_behindOneThatWasNot() {
        Counted x = sixtyLongBars(282);
        due("two bars a line", x.write(150), 3600 + 282 + 30 + 59);
        due("FULL", x.write(100), FULL);
        due("cells", x.told(3), 3600 + 282 + 30 + 59);
        due("read", x.read(), 60);
    }

    static void p17_full_aBarThatIsTooLongComesBefore() {
        StringBuilder row = new StringBuilder("5 ");
        for (int i = 0; i < 600; i++) {
            row.append(i > 0 && i % 10 == 0 ? "_ " : "").append(NOTE);
            row.append(i >= 590 ? "4 14 " : i % 2 == 0 ? "14 " : "");
        }
        due("more than 4000 cells", reading(10, 16, row.toString()).write(81), FULL);
        due("and the last bar has 81", reading(10, 16, row.toString()).write(80), -10 - 59);
        due("and the first has 66", reading(10, 16, row.toString()).write(65), -10);
    }

    static void p17_full_stateAndRangeComeBefore() {
        Counted x = sixtyLongBars(282);
        due("FULL", x.write(100), FULL);
        due("RANGE", x.write(201), RANGE);
        x.voice();
        due("STATE", x.write(100), STATE);
    }

    // ---- 18 wants

    static void p18_wants_ofAllPitches() {
        for (int from = 7; from <= 55; from++) {
            Counted x = new Counted();
            for (int to = 7; to <= 55; to++) {
                int apart = Math.abs(from - to);
                int want = apart <= 2 ? 0 : apart > 4 ? 1 : from / 7 == to / 7 ? 0 : 1;
                due("wants(" + from + ", " + to + ")", x.wants(from, to), want);
            }
        }
    }

    static void p18_wants_secondsAndThirdsNone() {
        Counted x = new Counted();
        due("the same", x.wants(28, 28), 0);
        due("a second over the octave", x.wants(34, 35), 0);
        due("a third over the octave", x.wants(34, 36), 0);
        due("a third down over the octave", x.wants(36, 34), 0);
        due("a third from the lowest", x.wants(7, 9), 0);
        due("a third to the highest", x.wants(53, 55), 0);
    }

    static void p18_wants_fourthsAndFifthsInAnotherOctave() {
        Counted x = new Counted();
        due("a fourth", x.wants(28, 31), 0);
        due("a fifth", x.wants(28, 32), 0);
        due("a fifth down", x.wants(34, 30), 0);
        due("a fourth over the octave", x.wants(32, 35), 1);
        due("a fourth over the octave", x.wants(34, 37), 1);
        due("a fifth over the octave", x.wants(31, 35), 1);
        due("a fifth down over the octave", x.wants(35, 31), 1);
    }

    static void p18_wants_allOthers() {
        Counted x = new Counted();
        due("a sixth", x.wants(28, 33), 1);
        due("a sixth down", x.wants(33, 28), 1);
        due("a seventh", x.wants(28, 34), 1);
        due("an octave", x.wants(28, 35), 1);
        due("the farthest", x.wants(7, 55), 1);
        due("the farthest", x.wants(55, 7), 1);
    }

    static void p18_wants_noPitchIsRange() {
        for (int bad : new int[] {6, 5, 0, -1, -28, LOW, LOW + 1, 56, 57, HIGH - 1, HIGH}) {
            dueRefused("wants(" + bad + ", 28)", () -> reading("134"), x -> x.wants(bad, 28), RANGE);
            due("wants(28, " + bad + ")", new Counted().wants(28, bad), RANGE);
            due("both", new Counted().wants(bad, bad), RANGE);
        }
        due("the least and the greatest", new Counted().wants(LOW, HIGH), RANGE);
        due("the greatest and the least", new Counted().wants(HIGH, LOW), RANGE);
        due("7 and 7", new Counted().wants(7, 7), 0);
        due("55 and 55", new Counted().wants(55, 55), 0);
    }

    // ---- 19 ways

    private static final int[][] NO_VOICES = {{-1, 0}, {3, 0}, {4, 0}, {60, 0}, {LOW, 0}, {HIGH, 0}, {0, -1}, {0, 2},
        {0, 3}, {0, LOW}, {0, HIGH}, {2, 1}, {2, 3}, {1, 0}, {1, -1}, {LOW, LOW}, {HIGH, HIGH}, {LOW, HIGH}, {-1, 3}};

    private static Counted threeBars() {
        return reading("136 136 126 345 134 _ 2356 _ 134");
    }

    static void p19_ways_noSuchBarOrVoiceIsNone() {
        for (int[] n : NO_VOICES) {
            dueRefused("ways(" + n[0] + ", " + n[1] + ")", WriteEdgeTests::threeBars, x -> x.ways(n[0], n[1]), NONE);
        }
        due("without bars", new Counted().ways(0, 0), NONE);
    }

    static void p19_ways_firstAndLastThatThereAre() {
        Counted x = threeBars();
        due("ways(0, 0)", x.ways(0, 0), 1);
        due("ways(0, 1)", x.ways(0, 1), 1);
        due("ways(2, 0)", x.ways(2, 0), 1);
        Counted y = reading(times(59, "134 _") + "134 126 345 134 126 345 136 136");
        due("the third voice of the 60th bar", y.ways(59, 2), 1);
        due("a fourth", y.ways(59, 3), NONE);
        due("of a 61st", y.ways(60, 0), NONE);
    }

    static void p19_ways_ofAnEmptyVoice() {
        due("ways", emptyVoice().ways(0, 0), 0);
    }

    static void p19_ways_ofABarRest() {
        due("4 4", reading("134").ways(0, 0), 1);
        due("15 16, in which no size would do", reading(15, 16, "134").ways(0, 0), 1);
        due("1 16", reading(1, 16, "134").ways(0, 0), 1);
    }

    static void p19_ways_ofARestThatIsNone() {
        due("LARGE", reading("45 126 2 134").ways(0, 0), 1);
        Counted x = inMeter(15, 16);
        x.bar(false);
        x.rest(0, 1, 0);
        due("of 480", x.ways(0, 0), 0);
    }

    static void p19_ways_itsSizesAside() {
        Counted x = emptyVoice();
        x.note(28, 0, 1, 1, 0);
        due("one half", x.ways(0, 0), 0);
        x.note(28, 0, 1, 1, 0);
        due("two halves, though they are SMALL", x.ways(0, 0), 1);
        x.note(28, 0, 1, 1, 0);
        due("three", x.ways(0, 0), 0);
    }

    static void p19_ways_oneAndTwoAndMore() {
        due("one", reading(5, 16, "136 1236 136").ways(0, 0), 1);
        // 160 = 128 + 8 + 24: either quarter may be the LARGE one.
        due("two", reading(5, 16, "1236 1236 136 3").ways(0, 0), 2);
        due("five", reading(5, 16, times(5, "1236")).ways(0, 0), 2);
    }

    static void p19_ways_veryManyAreTwo() {
        due("160 and 8 * 60: eight of forty", fortyRests(10, 8).ways(0, 0), 2);
        due("1248 more than 160 is no 60s", fortyRests(11, 4).ways(0, 0), 0);
        due("1760 more than 160 is no 60s", fortyRests(15, 4).ways(0, 0), 0);
        due("of a voice of SMALL ones that is whole", fortyRests(5, 16).ways(0, 0), 1);
    }

    private static Counted fortyRests(int up, int down) {
        Counted x = inMeter(up, down);
        x.bar(false);
        for (int i = 0; i < 40; i++) {
            x.rest(3, 1, 0);
        }
        return x;
    }

    // ---- 20 signed

    static void p20_signed_noSuchBarOrVoiceIsNone() {
        for (int[] n : NO_VOICES) {
            dueRefused("signed(" + n[0] + ", " + n[1] + ")", WriteEdgeTests::threeBars, x -> x.signed(n[0], n[1]), NONE);
        }
        due("without bars", new Counted().signed(0, 0), NONE);
    }

    static void p20_signed_aVoiceThatIsNotWholeIsState() {
        dueRefused("an empty one", WriteEdgeTests::emptyVoice, x -> x.signed(0, 0), STATE);
        dueRefused("half a one", () -> {
            Counted x = emptyVoice();
            x.note(28, 0, 1, 0, 0);
            return x;
        }, x -> x.signed(0, 0), STATE);
        Supplier<Counted> second = () -> {
            Counted x = reading("134");
            x.voice();
            x.note(28, 0, 1, 0, 2);
            return x;
        };
        dueRefused("the second", second, x -> x.signed(0, 1), STATE);
        due("the first is whole", second.get().signed(0, 0), 0);
        due("there is no third", second.get().signed(0, 2), NONE);
        Counted x = second.get();
        x.rest(3, 0, 0);
        due("the second is whole", x.signed(0, 1), 0);
    }

    static void p20_signed_barRestAndRest() {
        due("a bar rest", reading("134").signed(0, 0), 0);
        due("a rest that is none", reading("45 126 2 134").signed(0, 0), 1);
        due("a SMALL one", reading(1, 16, "6 126 2 134").signed(0, 0), 1);
        due("one with a DOT", reading(6, 4, "134 3").signed(0, 0), 0);
        due("a note", reading("45 126 2 5 13456").signed(0, 0), 0);
    }

    static void p20_signed_byTheWayThatIsRead() {
        due("LARGE first", reading(5, 16, "45 126 2 1236 6 126 2 1236 1236 1236 1236").signed(0, 0), 0);
        due("LARGE last", reading(5, 16, "6 126 2 1236 1236 1236 1236 45 126 2 1236").signed(0, 0), 1);
        due("LARGE between", reading(5, 16, "6 126 2 1236 1236 45 126 2 1236 6 126 2 1236 1236").signed(0, 0), 1);
        due("one way alone", reading(5, 16, "6 126 2 136 45 126 2 1236 6 126 2 136").signed(0, 0), 0);
    }

    static void p20_signed_asItIsWritten() {
        Counted x = reading("45 126 2 134 126 345 134 _ 134 126 345 45 126 2 134");
        due("the first", x.signed(0, 0), 1);
        due("the second", x.signed(0, 1), 0);
        due("the first of the next", x.signed(1, 0), 0);
        due("the second of the next", x.signed(1, 1), 1);
    }

    public static void main(String[] args) {
        runAll(WriteEdgeTests.class);
    }
}
