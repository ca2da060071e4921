/** The edges of term 3 and of promise 7: what cells mean, and where a row's first fault is. */
public final class ReadEdgeTests extends Bench {
    private static final String[] NOTE_CELLS = {
        "13456", "1356", "12346", "123456", "12356", "2346", "23456",
        "1345", "135", "1234", "12345", "1235", "234", "2345",
        "1456", "156", "1246", "12456", "1256", "246", "2456",
        "145", "15", "124", "1245", "125", "24", "245"};
    private static final String[] REST_CELLS = {"134", "136", "1236", "1346"};
    private static final String[] OCTAVE_SIGNS = {"4", "45", "456", "5", "46", "56", "6"};
    private static final String[] SIGNS = {"146", "126", "16"};
    private static final String[] INTERVALS = {"34", "346", "3456", "35", "356", "25", "36"};
    private static final int[] UPS = {4, 2, 1, 1};
    private static final int[] DOWNS = {4, 4, 4, 8};

    private static boolean isOneOf(String[] all, String cell) {
        for (String one : all) {
            if (one.equals(cell)) {
                return true;
            }
        }
        return false;
    }

    private static String forty() {
        return times(40, "134").trim();
    }

    // ---- 3 the cells

    static void t3_noteCells_allTwentyEight() {
        for (int n = 0; n < 28; n++) {
            Counted x = reading(UPS[n / 7], DOWNS[n / 7], "5 " + NOTE_CELLS[n]);
            due("KIND of " + NOTE_CELLS[n], x.item(0, 4), n / 7);
            due("PITCH of " + NOTE_CELLS[n], x.item(0, 2), 28 + n % 7);
        }
    }

    static void t3_restCells_allFour() {
        for (int kind = 1; kind < 4; kind++) {
            Counted x = reading(UPS[kind], DOWNS[kind], REST_CELLS[kind]);
            due("KIND", x.item(0, 4), kind);
            due("no PITCH", x.item(0, 2), NONE);
        }
        Counted x = reading("45 126 2 134");
        due("KIND", x.item(0, 4), 0);
    }

    static void t3_restCells_haveNoSignNoTieNoIntervals() {
        Counted x = reading("5 1345 34 4 14 136 14");
        due("SIGN", x.item(1, 3), 0);
        due("TIED", x.item(1, 8), 0);
        due("INTERVALS", x.item(1, 10), 0);
        due("the first", x.item(1, 11), 0);
        due("of a bar rest", reading("134").item(0, 3), 0);
    }

    static void t3_octaveSigns_allSevenWithTheLowestAndHighestStep() {
        for (int octave = 1; octave <= 7; octave++) {
            Counted x = reading(OCTAVE_SIGNS[octave - 1] + " 13456");
            due("c of octave " + octave, x.item(0, 2), 7 * octave);
            x = reading(OCTAVE_SIGNS[octave - 1] + " 23456");
            due("b of octave " + octave, x.item(0, 2), 7 * octave + 6);
        }
    }

    static void t3_signs_ofNotesAndIntervals() {
        due("none", reading("5 13456").item(0, 3), 0);
        for (int sign = 1; sign <= 3; sign++) {
            Counted x = reading(SIGNS[sign - 1] + " 5 13456 " + SIGNS[sign - 1] + " 34");
            due("of the note", x.item(0, 3), sign);
            due("of the interval", x.item(0, 11), 2 + 16 * sign);
        }
    }

    static void t3_intervals_allSeven() {
        for (int n = 2; n <= 8; n++) {
            Counted x = reading("5 13456 " + INTERVALS[n - 2]);
            due("how many", x.item(0, 10), 1);
            due("its number", x.item(0, 11), n);
        }
    }

    /** Of one cell alone: what can begin music, and what can not. */
    static void t3_music_eachCellAsTheFirst() {
        for (int c = 0; c <= 64; c++) {
            String cell = dots(c);
            boolean begins = isOneOf(OCTAVE_SIGNS, cell) || isOneOf(SIGNS, cell) || isOneOf(REST_CELLS, cell);
            dueRead(cell, cell.equals("134") ? 1 : begins ? -11 : -10);
        }
    }

    /** Behind a whole bar of one note, all of whose cells have stood. */
    static void t3_music_eachCellBehindANote() {
        for (int c = 0; c <= 64; c++) {
            String cell = dots(c);
            boolean isNext = isOneOf(OCTAVE_SIGNS, cell) || isOneOf(SIGNS, cell) || isOneOf(REST_CELLS, cell)
                || isOneOf(NOTE_CELLS, cell) || isOneOf(INTERVALS, cell) || cell.equals("3") || c == 0 || c == 64;
            boolean reads = cell.equals("14") || isOneOf(INTERVALS, cell);
            dueRead("5 13456 " + cell, reads ? 1 : isNext ? -13 : -12);
        }
    }

    static void t3_music_eachCellBehindARepeatedBar() {
        for (int c = 1; c < 64; c++) {
            dueFault("134 _ 2356 " + dots(c), 3);
        }
        dueFault("134 _ 2356 _", 4);
        dueFault("134 _ 2356 /", 4);
        dueRead("134 _ 2356", 2);
    }

    // ---- 3 the order of what music is

    static void t3_hand_isPerhapsFirst() {
        due("none", reading("134").told(4), 0);
        due("RIGHT", reading("46 345 134").told(4), 1);
        due("LEFT", reading("456 345 134").told(4), 2);
    }

    static void t3_hand_onlyOnceAndOnlyFirst() {
        dueFault("46 345 46 345 134", 3);
        dueFault("46 345 456 345 134", 3);
        dueFault("134 46 345", 2);
        dueFault("134 _ 46 345 134", 3);
        dueFault("134 / 456 345 134", 3);
        dueFault("146 46 345", 2);
    }

    static void t3_hand_withNothingBehindIt() {
        dueFault("46 345", 2);
        dueFault("456 345", 2);
        dueFault("46", 1);
        dueFault("456", 1);
        dueFault("46 345 _ 134", 2);
        dueFault("456 345 / 134", 2);
    }

    static void t3_hand_itsFirstCellMayBeAnOctaveSign() {
        due("46", reading("46 13456").item(0, 2), 35);
        due("456", reading("456 13456").item(0, 2), 21);
        due("behind RIGHT", reading("46 345 46 13456").item(0, 2), 35);
    }

    static void t3_bars_oneBlankOrOne64Between() {
        dueRead("134 _ 134", 2);
        dueRead("134 / 134", 2);
        dueRead("134 _ 134 / 134", 3);
        dueFault("134 _ _ 134", 2);
        dueFault("134 / / 134", 2);
        dueFault("134 _ / 134", 2);
        dueFault("134 / _ 134", 2);
    }

    static void t3_bars_noBlankFirstOrLast() {
        dueFault("_ 134", 0);
        dueFault("/ 134", 0);
        dueFault("134 _", 2);
        dueFault("134 /", 2);
        dueFault("134 _ _", 2);
        dueFault("134 / /", 2);
    }

    static void t3_repeated_notTheFirstBar() {
        dueFault("2356", 0);
        dueFault("46 345 2356", 2);
        dueRead("134 _ 2356", 2);
        dueRead("134 / 2356", 2);
        dueRead("134 _ 2356 _ 2356 / 2356 _ 134", 5);
    }

    static void t3_repeated_isAlone() {
        dueFault("134 _ 2356 2356", 3);
        dueFault("134 _ 134 2356", 3);
        dueFault("134 _ 2356 126 345 134", 3);
        dueFault("134 126 345 2356", 3);
    }

    static void t3_voices_threeWithAnotherVoiceBetween() {
        dueRead("134 126 345 134", 1);
        dueRead("134 126 345 134 126 345 134", 1);
        due("voices", reading("134 126 345 134 126 345 134").barOf(0, 0), 3);
    }

    static void t3_voices_noneIsEmpty() {
        dueFault("126 345 134", 1);
        dueFault("134 126 345", 3);
        dueFault("134 126 345 _ 134", 3);
        dueFault("134 126 345 / 134", 3);
        dueFault("134 126 345 126 345 134", 4);
    }

    static void t3_item_dotsUpToTwo() {
        dueRead(3, 4, "136 3", 1);
        dueRead(7, 8, "136 3 3", 1);
        dueFault(7, 8, "136 3 3 3", 3);
        dueRead(3, 4, "5 1345 3", 1);
        dueRead(7, 8, "5 1345 3 3", 1);
        dueFault(7, 8, "5 1345 3 3 3", 4);
        dueFault("3 134", 0);
        due("none", reading("136 136").item(0, 6), 0);
        due("one", reading(3, 4, "136 3").item(0, 6), 1);
        due("two", reading(7, 8, "136 3 3").item(0, 6), 2);
    }

    static void t3_item_intervalsUpToFour() {
        for (int n = 0; n <= 4; n++) {
            due("intervals", reading("5 13456 " + times(n, "34")).item(0, 10), n);
            due("with signs", reading("5 13456 " + times(n, "146 34")).item(0, 10), n);
        }
        dueFault("5 13456 34 34 34 34 34", 6);
        dueFault("5 13456 34 34 34 34 146 34", 7);
        dueFault("134 34", 1);
        dueFault("134 146 34", 2);
        dueFault("34", 0);
        dueFault("146 34", 1);
    }

    static void t3_item_oneSignAndOneOctaveSign() {
        dueRead("146 5 13456", 1);
        dueFault("146 146 5 13456", 1);
        dueFault("5 5 13456", 1);
        dueFault("5 146 13456", 1);
        dueFault("146 134", 1);
        dueFault("5 134", 1);
        dueFault("146 5 134", 2);
        dueFault("5 13456 146 146 34", 3);
        dueFault("5 13456 146 5 34", 4);
    }

    static void t3_item_orderBehindANote() {
        dueRead(3, 4, "5 1345 3 34 4 14 14", 1);
        dueFault(3, 4, "5 1345 34 3", 3);
        dueFault("5 13456 4 14 34", 4);
        dueFault("5 13456 4 14 3", 4);
        dueFault("5 13456 14 34", 3);
        dueFault("5 13456 14 4 14", 4);
        dueFault("5 13456 14 3", 3);
        dueFault("5 13456 4 14 4 14", 5);
        dueFault("5 13456 14 14", 3);
        dueFault("5 13456 4 14 14 14", 5);
    }

    static void t3_item_tieOfANoteAlone() {
        due("TIED", reading("5 13456 4 14").item(0, 8), 1);
        due("not", reading("5 13456").item(0, 8), 0);
        dueFault("134 4 14", 2);
        dueFault("4 14 134", 1);
    }

    static void t3_item_sizeThenOpen() {
        dueRead("45 126 2 56 12 134 45 23", 1);
        dueFault("56 12 45 126 2 134 45 23", 3);
        dueFault("45 126 2 45 126 2 134", 4);
        dueFault("6 126 2 45 126 2 134", 4);
        dueFault("45 126 2", 3);
        dueFault("45 126 2 _ 134", 3);
    }

    /** A sign of several cells that the end, or another cell, cuts off. */
    static void t3_signs_cutOff() {
        dueFault("45 126", 2);
        dueFault("6 126", 2);
        dueFault("45", 1);
        dueFault("6", 1);
        dueFault("45 126 3", 2);
        dueFault("6 126 134", 2);
        dueFault("56", 1);
        dueFault("56 3", 1);
        dueFault("134 126", 2);
        dueFault("134 126 2", 2);
        dueFault("5 13456 4", 3);
        dueFault("5 13456 4 _ 134", 3);
        dueFault("56 12 134 45", 4);
        dueFault("56 12 134 45 _ 134", 4);
        dueFault("5 13456 146", 3);
        dueFault("5 13456 146 _ 134", 3);
        dueFault("146 5", 2);
    }

    // ---- 3 slurs

    static void t3_slur_whileOneIsOpenOpenCanNot() {
        dueFault("56 12 134 _ 56 12 134 45 23", 5);
        dueFault("56 12 136 56 12 136 45 23", 4);
        dueFault("56 12 56 12 134 45 23", 3);
        due("56 is an octave sign", reading("56 12 136 56 1345 45 23").item(1, 2), 42);
    }

    static void t3_slur_whileOneIsOpenSlurCanNot() {
        dueFault("56 12 134 14", 3);
        dueFault("56 12 134 14 _ 134 45 23", 3);
        dueFault("56 12 134 _ 134 14", 5);
        dueRead("56 12 134 _ 134 45 23 _ 134 14", 3);
    }

    static void t3_slur_whileOneIsOpenAnotherVoiceCanNot() {
        dueFault("56 12 134 126 345 134 45 23", 4);
        dueRead("56 12 134 45 23 126 345 134", 1);
        due("126 is a flat", reading("56 12 136 126 5 1345 45 23").item(1, 3), 2);
    }

    static void t3_slur_whileOneIsOpenRepeatedCanNot() {
        dueFault("134 _ 56 12 134 _ 2356", 6);
        dueFault("56 12 134 / 2356 _ 134 45 23", 4);
        dueRead("56 12 134 45 23 / 2356", 2);
    }

    static void t3_slur_whileOneIsOpenTheEndCanNot() {
        dueFault("56 12 134", 3);
        dueFault("56 12 134 _ 134", 5);
        dueRead("56 12 134 _ 134 45 23", 2);
    }

    static void t3_slur_whileNoneIsOpenCloseCanNot() {
        dueFault("134 45 23", 2);
        dueFault("56 12 134 45 23 45 23", 6);
        dueFault("56 12 134 45 23 _ 134 45 23", 8);
        dueFault("134 14 45 23", 3);
        dueFault("45 23", 1);
    }

    static void t3_slur_closeIsTheLastOfItsItem() {
        dueFault("56 12 134 45 23 14", 5);
        dueFault("56 12 5 13456 45 23 4 14", 7);
        dueRead("56 12 5 13456 4 14 45 23", 1);
    }

    static void t3_slur_fromOpenUpToTheOneBeforeClose() {
        Counted x = reading("134 _ 56 12 134 _ 134 / 136 136 45 23 _ 134");
        dueText("SLURRED", all(x, 9), "0 1 1 1 0 0");
    }

    static void t3_slur_openAndCloseOfOneItem() {
        Counted x = reading("56 12 134 45 23 _ 134");
        dueText("SLURRED", all(x, 9), "0 0");
    }

    static void t3_slur_behindACloseAnotherMayOpen() {
        Counted x = reading("56 12 136 136 45 23 _ 56 12 136 136 45 23");
        dueText("SLURRED", all(x, 9), "1 0 1 0");
    }

    static void t3_slur_ofOneItemAndOfTheLast() {
        Counted x = reading("136 14 136 _ 134 14");
        dueText("SLURRED", all(x, 9), "1 0 1");
    }

    // ---- 3 SIZES

    static void t3_sizes_toldUpToTheNextSign() {
        Counted x = reading(5, 8, "6 126 2 134 134 45 126 2 136");
        dueText("SIZES", all(x, 5), "1 1 0");
        x = reading("45 126 2 1236 1236 1236 6 126 2 " + times(4, "134"));
        dueText("SIZES", all(x, 5), "0 0 0 1 1 1 1");
    }

    static void t3_sizes_toldInTheirVoiceAlone() {
        Counted x = reading(2, 4, "6 126 2 " + times(8, "134") + "126 345 136 _ 136");
        dueText("SIZES", all(x, 5), "1 1 1 1 1 1 1 1 0 0");
    }

    static void t3_sizes_thoseAheadOfTheFirstSignAreFree() {
        Counted x = reading(5, 8, "134 6 126 2 134 45 126 2 136");
        dueText("SIZES", all(x, 5), "1 1 0");
    }

    static void t3_sizes_barRestIsOneRestCellAlone() {
        due("SIZE", reading("134").item(0, 5), 2);
        due("with SLUR", reading("134 14").item(0, 5), 2);
        due("with OPEN", reading("56 12 134 _ 134 45 23").item(0, 5), 2);
        due("with CLOSE", reading("56 12 134 _ 134 45 23").item(1, 5), 2);
        due("with OPEN and CLOSE", reading("56 12 134 45 23").item(0, 5), 2);
        due("in the third voice", reading("134 126 345 134 126 345 134").item(2, 5), 2);
        due("it lasts", reading(1, 16, "134").item(0, 7), 32);
        due("it lasts", reading(4, 1, "134").item(0, 7), 2048);
        due("it lasts", reading(7, 16, "134").item(0, 7), 224);
    }

    static void t3_sizes_noBarRestWithDotSizeOrOtherItems() {
        due("with LARGE", reading("45 126 2 134").item(0, 5), 0);
        due("with SMALL", reading(1, 16, "6 126 2 134").item(0, 5), 1);
        dueFault("6 126 2 134", 4);
        dueFault(3, 4, "45 126 2 134", 4);
        due("with a DOT", reading(6, 4, "134 3").item(0, 5), 0);
        due("with two", reading(7, 4, "134 3 3").item(0, 5), 0);
        dueFault(3, 4, "134 3", 2);
        due("with another", reading(5, 4, "134 1236").item(0, 5), 0);
        dueFault("134 1346", 2);
        due("a note", reading("5 13456").item(0, 5), 0);
        dueFault(3, 4, "5 13456", 2);
        dueFault(3, 4, "136", 1);
    }

    static void t3_sizes_byTheBarsLengthAlone() {
        due("512", reading("5 13456").item(0, 5), 0);
        due("32", reading(1, 16, "5 13456").item(0, 5), 1);
        dueText("the quarter between halves", all(reading(5, 16, "136 1236 136"), 5), "1 0 1");
    }

    static void t3_sizes_leastOftenUnlikeNeighbours() {
        // 256 = 128 + 64 + 8 * 8: one change, while another quarter being LARGE makes more.
        Counted x = reading(2, 4, "1236 1346 " + times(8, "1236"));
        dueText("SIZES", all(x, 5), "0 0 1 1 1 1 1 1 1 1");
        due("ways", x.ways(0, 0), 2);
    }

    static void t3_sizes_ofSeveralLargeAtTheFirstThatDiffers() {
        Counted x = reading(5, 16, times(5, "1236"));
        dueText("SIZES", all(x, 5), "0 1 1 1 1");
        // Two of ten, at either end, or one at each: those have one change, this has two.
        x = reading(5, 8, times(10, "1236"));
        dueText("SIZES", all(x, 5), "0 0 1 1 1 1 1 1 1 1");
    }

    private static void dueSizes(int up, int down, String row, String want) {
        dueText("SIZES of " + row + " in " + up + " " + down, all(reading(up, down, row), 5), want);
    }

    static void t3_sizes_leastOftenThoughAnotherWayHasLargeFirst() {
        dueSizes(5, 16, "136 3 1236 1236", "1 1 0");
        dueSizes(13, 16, "1236 136 3 136 3", "1 1 0");
        dueSizes(13, 16, "1236 1236 136 136 3", "1 1 1 0");
        dueSizes(11, 16, "1236 1236 136 3 1346 1236", "0 1 1 0 0");
        dueSizes(15, 16, "1236 1236 136 3 1236 3 1236", "0 1 1 0 0");
    }

    static void t3_sizes_asOftenUnlikeThenLargeFirst() {
        dueSizes(5, 16, "1236 136 3 1236", "0 1 1");
        dueSizes(9, 16, "136 136 136", "0 1 1");
        dueSizes(9, 16, "1236 1236 136 136", "0 0 1 1");
        dueSizes(3, 16, "136 1346 1346 1236 3", "1 0 1 1");
        dueSizes(7, 8, "1236 136 3 136 3 134", "1 0 1 1");
        dueSizes(13, 16, "1236 1236 136 3 1236 1236", "0 0 1 1 0");
    }

    static void t3_sizes_ofTheLongestBar() {
        dueSizes(4, 1, times(4, "134"), "0 0 0 0");
        dueSizes(4, 1, times(19, "134"), "0 0 0 " + times(16, "1").trim());
        dueSizes(4, 1, times(34, "134"), "0 0 " + times(32, "1").trim());
        dueSizes(4, 1, "134 3 3 134 3 3 136", "0 0 0");
    }

    static void t3_sizes_ofTheShortestBar() {
        dueSizes(1, 16, times(8, "1346"), "1 1 1 1 1 1 1 1");
        dueSizes(1, 16, "136 1236 1236", "1 1 1");
        dueSizes(1, 16, "136 3 1236", "1 1");
        dueFault(1, 16, times(9, "1346"), 9);
        dueFault(1, 16, times(7, "1346"), 7);
    }

    static void t3_sizes_theToldNeighbourCounts() {
        Counted x = reading(5, 8, times(9, "1236") + "45 126 2 1236");
        dueText("SIZES", all(x, 5), "1 1 1 1 1 1 1 1 0 0");
        x = reading(5, 8, times(9, "1236") + "6 126 2 1236");
        dueText("SIZES", all(x, 5), "0 0 1 1 1 1 1 1 1 1");
    }

    static void t3_sizes_ofFortyItems() {
        // 40 * 32 is 1280, 40 * 8 is 320; 40 * 4 is 160, and no way to 320, nor 40 * 56 to 2048.
        due("KIND 0", reading(10, 4, forty()).item(39, 5), 1);
        due("KIND 2", reading(10, 16, times(40, "1236")).item(0, 5), 1);
        dueFault(10, 16, times(40, "1346"), 40);
        dueFault(4, 1, times(40, "134 3 3"), 120);
        // From 1280 to 2048 it is 768, and each LARGE one is 480 more.
        dueFault(4, 1, forty(), 40);
    }

    // ---- 3 OCTAVES

    static void t3_octaves_theFirstNoteOfTheMusicWantsASign() {
        dueFault("13456", 0);
        dueFault("146 13456", 1);
        dueFault("46 345 13456", 2);
        dueFault("56 12 13456 45 23", 2);
        dueFault("45 126 2 13456", 3);
        dueFault("136 1345", 1);
        dueFault("134 _ 13456", 2);
        dueRead("136 5 1345", 1);
    }

    static void t3_octaves_ofALaterVoiceWantsASign() {
        dueFault("5 13456 126 345 13456", 4);
        dueFault("5 13456 126 345 136 1345", 5);
        dueFault("5 13456 126 345 5 13456 126 345 13456", 8);
        dueFault("5 13456 126 345 134 126 345 13456", 7);
        dueRead("5 13456 126 345 5 13456", 1);
    }

    static void t3_octaves_behindA64WantsASign() {
        dueFault("5 13456 / 13456", 3);
        dueFault("5 13456 / 136 1345", 4);
        dueFault("5 13456 / 134 _ 13456", 5);
        dueFault("5 13456 / 134 _ 134 _ 13456", 7);
        dueRead("5 13456 / 5 13456 _ 13456", 3);
        dueRead("5 13456 _ 13456", 2);
        dueRead("5 13456 / 134 _ 5 13456", 3);
    }

    static void t3_octaves_behindARepeatedBarWantsASign() {
        dueFault("5 13456 _ 2356 _ 13456", 5);
        dueFault("5 13456 _ 2356 _ 136 1345", 6);
        dueFault("5 13456 _ 2356 _ 134 _ 13456", 7);
        dueRead("5 13456 _ 2356 _ 5 13456 _ 13456", 4);
    }

    static void t3_octaves_behindABarOfSeveralVoicesWantsASign() {
        dueFault("5 13456 126 345 5 13456 _ 13456", 7);
        dueFault("5 13456 126 345 134 _ 13456", 6);
        dueFault("5 13456 126 345 134 _ 134 _ 13456", 8);
        dueRead("5 13456 126 345 134 _ 5 13456 _ 13456", 3);
    }

    static void t3_octaves_restsBetweenDoNotMatter() {
        Counted x = reading("5 13456 _ 134 _ 136 135");
        dueText("PITCHES", all(x, 2), "28 -1 -1 29");
    }

    /** Each step behind each note of an octave, without a sign: the pitch by seconds, thirds, fourths, fifths. */
    static void t3_octaves_eachStepBehindEachNote() {
        for (int from = 28; from <= 34; from++) {
            for (int step = 0; step < 7; step++) {
                int want = nearest(from, step);
                Counted x = reading("5 " + NOTE_CELLS[7 + from - 28] + " " + NOTE_CELLS[7 + step]);
                due("step " + step + " behind " + from, x.item(1, 2), want);
            }
        }
    }

    private static int nearest(int from, int step) {
        for (int to = 7; to <= 55; to++) {
            int apart = Math.abs(from - to);
            if (to % 7 == step && (apart <= 2 || (apart <= 4 && from / 7 == to / 7))) {
                return to;
            }
        }
        return NONE;
    }

    static void t3_octaves_aSignWhereNoneIsWanted() {
        Counted x = reading("5 1345 5 1345");
        dueText("PITCHES", all(x, 2), "28 28");
        x = reading("5 1345 46 2345");
        dueText("PITCHES", all(x, 2), "28 41");
    }

    static void t3_octaves_byTheNoteNotByItsIntervals() {
        Counted x = reading("5 1345 36 1345");
        dueText("PITCHES", all(x, 2), "28 28");
    }

    // ---- 7 read: its answer, and what changes

    static void p07_read_howManyBars() {
        due("one", withRow("134").read(), 1);
        due("two", withRow("134 _ 2356").read(), 2);
        due("sixty", withRow("134" + times(59, " / 134")).read(), 60);
    }

    static void p07_read_noCells() {
        dueRefused("read", Counted::new, Counted::read, -10);
        dueRefused("read of a row that was cut", () -> {
            Counted x = reading("46 345 134");
            x.cut(0);
            return x;
        }, Counted::read, -10);
    }

    static void p07_read_theRowStays() {
        Counted x = reading("46 345 134 _ 2356");
        dueText("the row", rowOf(x), "46 345 134 _ 2356");
        due("again", x.read(), 2);
    }

    static void p07_read_aFaultChangesNothing() {
        dueRefused("a fault in the second bar", () -> {
            Counted x = reading(3, 4, "456 345 136 3 126 345 134 14 _ 2356");
            x.bar(false);
            x.note(30, 1, 2, 0, 0);
            x.interval(2, 3);
            x.tie(true);
            fill(x, "46 345 134 _ 134 _");
            return x;
        }, Counted::read, -16);
        dueRefused("a fault at once, with 600 items", () -> {
            Counted x = reading(10, 4, sixHundred());
            fill(x, "2");
            return x;
        }, Counted::read, -10);
        dueRefused("a fault behind 600 items, with few", () -> {
            Counted x = reading(10, 4, "136 3 136 3 136 3 1236");
            fill(x, sixHundred() + " 2");
            return x;
        }, Counted::read, -10 - 614);
    }

    /** Nothing of a row that was refused is left for the next one. */
    static void p07_read_behindARefusedOne() {
        Counted x = withRow("56 12 134 _ 134");
        due("an open slur", x.read(), -15);
        fill(x, "134 14 _ 2356");
        due("none is open now", x.read(), 2);
        dueText("SLURRED", all(x, 9), "1");
        fill(x, "456 345 5 13456 _ 2");
        due("a hand and a note", x.read(), -15);
        due("HAND", x.told(4), 0);
        fill(x, "13456");
        due("the first note wants its sign", x.read(), -10);
        fill(x, "45 126 2 134 2");
        due("a size", x.read(), -14);
        fill(x, "134");
        due("none is told now", x.read(), 1);
        due("a bar rest", x.item(0, 5), 2);
        fill(x, "134 126 345 134 126 345 134 126 345");
        due("three voices", x.read(), -19);
        fill(x, "134 126 345 134");
        due("two", x.read(), 1);
        due("voices", x.barOf(0, 0), 2);
    }

    static void p07_read_sixtyBarsOfThreeVoices() {
        String bar = "134 126 345 134 126 345 134";
        Counted x = reading(times(59, bar + " _") + bar);
        due("bars", x.told(0), 60);
        due("items", x.told(1), 180);
        due("voices of the last", x.barOf(59, 0), 3);
        due("first item of the last", x.barOf(59, 1), 177);
        due("a fourth", x.voice(), FULL);
        due("a 61st", x.bar(false), FULL);
        due("a rest more", x.rest(3, 1, 0), STATE);
    }

    static void p07_read_theMusicIsThatOfTheRowAlone() {
        Counted x = reading("5 13456 34 4 14 14 126 345 134 _ 2356 _ 134");
        fill(x, "136 136");
        due("read", x.read(), 1);
        due("bars", x.told(0), 1);
        due("items", x.told(1), 2);
        due("voices", x.barOf(0, 0), 1);
        dueText("TIED", all(x, 8), "0 0");
        dueText("SLURRED", all(x, 9), "0 0");
        dueText("INTERVALS", all(x, 10), "0 0");
        dueText("the first", all(x, 11), "0 0");
    }

    static void p07_read_theHandIsThatOfTheRow() {
        Counted x = new Counted();
        x.hand(2);
        fill(x, "134");
        x.read();
        due("none", x.told(4), 0);
        fill(x, "456 345 134");
        x.read();
        due("LEFT", x.told(4), 2);
        fill(x, "46 345 134");
        x.read();
        due("RIGHT", x.told(4), 1);
    }

    static void p07_read_intervalsByTheHandOfTheRow() {
        Counted x = new Counted();
        x.hand(2);
        fill(x, "4 13456 34");
        due("below 7 without a hand", x.read(), -12);
        fill(x, "456 345 4 13456 34");
        due("above 7 with the left one", x.read(), 1);
    }

    static void p07_read_withTheMeterThatIs() {
        dueRead(3, 4, "136 3", 1);
        dueFault(4, 4, "136 3", 2);
        Counted x = reading(3, 4, "136 3");
        due("LENGTH", x.told(2), 384);
        due("again, though there are bars", x.read(), 1);
        due("LENGTH", x.told(2), 384);
        due("the meter can not change", x.meter(4, 4), STATE);
    }

    static void p07_read_whatWasReadCanGoOn() {
        Counted x = reading("134");
        due("a voice", x.voice(), 1);
        due("a note", x.note(28, 0, 0, 0, 0), 1);
        due("a bar", x.bar(true), 1);
    }

    static void p07_read_4000Cells() {
        String note = "13456 36 36 36 146 36 ";
        String bar = times(4, note) + times(6, note + "14");
        String row = "5 " + times(56, bar + "_") + times(3, times(9, note) + note + "14 _") + times(9, note) + note;
        due("cells", cells(row).size(), 1 + 600 * 6 + 59 + 56 * 6 + 3);
        String full = row + "14";
        due("cells", cells(full).size(), 4000);
        Counted x = inMeter(10, 16, full);
        due("read", x.read(), 60);
        due("items", x.told(1), 600);
        due("the last is SLURRED", x.item(599, 9), 1);
        Counted y = inMeter(10, 16, full.substring(0, full.length() - note.length() - 2) + note.replace("13456", "1345") + "14");
        due("cells", y.told(3), 4000);
        due("a fault at the end", y.read(), -10 - 4000);
        Counted z = inMeter(10, 16, row + "23");
        due("a fault at the last", z.read(), -10 - 3999);
    }

    // ---- 7 read: FAULTS that are named

    static void p07_fault_23Behind45WithoutASlur() {
        dueFault("134 45 23", 2);
        dueFault("5 13456 45 23", 3);
        dueFault("45 23", 1);
    }

    static void p07_fault_345Behind126InASlur() {
        dueFault("56 12 134 126 345 134", 4);
        dueFault("56 12 136 136 126 345 134", 5);
    }

    static void p07_fault_blankBehindBlank() {
        dueFault("134 _ _ 134", 2);
        dueFault("134 _ 2356 _ _ 134", 4);
    }

    static void p07_fault_endBehindBlank() {
        dueFault("134 _", 2);
        dueFault("134 _ 2356 _", 4);
        dueFault("134 126 345 134 /", 5);
    }

    static void p07_fault_endOfARowWithoutCells() {
        dueFault("", 0);
    }

    static void p07_fault_theFirstOfSeveral() {
        dueFault("134 2 2", 1);
        dueFault("13456 _ _", 0);
        dueFault("136 _ _ 13456", 1);
    }

    static void p07_fault_noteCellWithoutTheOctaveItWants() {
        dueFault("13456", 0);
        dueFault("126 13456", 1);
        dueFault("56 12 146 13456", 3);
    }

    static void p07_fault_pitchBelow7() {
        due("7", reading("4 1345 1345").item(1, 2), 7);
        due("7 by a third", reading("4 1234 1345").item(1, 2), 7);
        due("7 by a fifth", reading("4 1235 1345").item(1, 2), 7);
        dueFault("4 1345 2345", 2);
        dueFault("4 1345 234", 2);
        dueFault("4 1345 146 234", 3);
        dueFault("4 135 2345", 2);
    }

    static void p07_fault_pitchAbove55() {
        due("55", reading("6 2345 2345").item(1, 2), 55);
        due("55 by a third", reading("6 1235 2345").item(1, 2), 55);
        due("55 by a fifth", reading("6 1234 2345").item(1, 2), 55);
        dueFault("6 2345 1345", 2);
        dueFault("6 2345 135", 2);
        dueFault("6 2345 126 1345", 3);
        dueFault("6 234 1345", 2);
    }

    static void p07_fault_intervalBelow7() {
        String[] seven = {"4 1356", "4 12346", "4 123456", "4 12356", "4 2346", "4 23456", "45 13456"};
        String[] six = {"4 13456", "4 1356", "4 12346", "4 123456", "4 12356", "4 2346", "4 23456"};
        for (int n = 2; n <= 8; n++) {
            dueRead(seven[n - 2] + " " + INTERVALS[n - 2], 1);
            dueRead("46 345 " + seven[n - 2] + " " + INTERVALS[n - 2], 1);
            dueFault(six[n - 2] + " " + INTERVALS[n - 2], 2);
            dueFault("46 345 " + six[n - 2] + " " + INTERVALS[n - 2], 4);
            dueFault(six[n - 2] + " 146 " + INTERVALS[n - 2], 3);
            dueRead("456 345 " + six[n - 2] + " " + INTERVALS[n - 2], 1);
        }
    }

    static void p07_fault_intervalAbove55WithTheLeftHand() {
        String[] last = {"6 2346", "6 12356", "6 123456", "6 12346", "6 1356", "6 13456", "56 23456"};
        String[] first = {"6 23456", "6 2346", "6 12356", "6 123456", "6 12346", "6 1356", "6 13456"};
        for (int n = 2; n <= 8; n++) {
            dueRead("456 345 " + last[n - 2] + " " + INTERVALS[n - 2], 1);
            dueFault("456 345 " + first[n - 2] + " " + INTERVALS[n - 2], 4);
            dueFault("456 345 " + first[n - 2] + " 16 " + INTERVALS[n - 2], 5);
            dueRead(first[n - 2] + " " + INTERVALS[n - 2], 1);
        }
    }

    static void p07_fault_behindAVoiceThatCanNotBeWhole() {
        dueFault(3, 4, "136", 1);
        dueFault(3, 4, "136 _ 134", 1);
        dueFault(3, 4, "136 / 134", 1);
        dueFault(3, 4, "136 126 345 134", 1);
        dueFault(3, 4, "134 126 345 136", 4);
        dueFault(3, 4, "134 126 345 136 126 345 134", 4);
        dueFault(3, 4, "134 _ 136 / 134", 3);
        dueFault(3, 4, "45 126 2 134 126 345 134", 4);
    }

    static void p07_fault_behindAVoiceThatCanNotBeWholeInASlur() {
        dueFault(3, 4, "56 12 136 _ 134 45 23", 3);
        dueFault(3, 4, "56 12 136 / 134 45 23", 3);
        dueFault(3, 4, "56 12 136", 3);
        dueFault(3, 4, "56 12 136 126 345 134", 4);
    }

    static void p07_fault_aVoiceThatLastsOneLessOrMore() {
        // 32 by 7 7 7 7 4; one item less or one dot more, and it is none.
        dueRead(1, 16, times(4, "1346 3 3") + "1346", 1);
        dueFault(1, 16, times(4, "1346 3 3"), 12);
        dueFault(1, 16, times(3, "1346 3 3") + "1346 3 1346", 12);
        dueFault(1, 16, times(4, "1346 3 3") + "1346 3", 14);
    }

    // ---- 7 read: FAULTS behind the 40th item

    static void p07_fault_behindThe40thEachOtherCell() {
        for (int c = 1; c < 64; c++) {
            String cell = dots(c);
            if (!cell.equals("3") && !cell.equals("14")) {
                dueFault(10, 4, forty() + " " + cell, 40);
            }
        }
    }

    static void p07_fault_behindThe40thBlank64TheEndAndAnotherVoice() {
        dueRead(10, 4, forty(), 1);
        dueRead(10, 4, forty() + " _ 134", 2);
        dueRead(10, 4, forty() + " / 2356", 2);
        dueRead(10, 4, forty() + " 126 345 134", 1);
        dueRead(10, 4, forty() + " 126 345 " + forty() + " 126 345 " + forty(), 1);
    }

    static void p07_fault_behindThe40thThatIsNotWhole() {
        dueFault(9, 4, forty(), 40);
        dueFault(9, 4, forty() + " _ 134", 40);
        dueFault(9, 4, forty() + " 126 345 134", 40);
        dueFault(9, 4, forty() + " 134", 40);
    }

    static void p07_fault_behindThe40thInASlur() {
        dueRead(10, 4, "56 12 " + forty() + " 45 23", 1);
        dueRead(10, 4, "56 12 " + forty() + " _ 134 45 23", 2);
        dueFault(10, 4, "56 12 " + forty() + " 126 345 134", 43);
        dueFault(10, 4, "56 12 " + forty() + " 134", 42);
        dueFault(10, 4, "56 12 " + forty() + " 14", 42);
        dueFault(10, 4, "56 12 " + forty() + " 45 134", 42);
        dueFault(10, 4, "56 12 " + forty() + " 45 23 134", 44);
        dueFault(10, 4, "56 12 " + forty(), 42);
    }

    static void p07_fault_whatBelongsToThe40thIsNotBehindIt() {
        String but = times(39, "134");
        dueRead(10, 4, forty() + " 14", 1);
        dueRead(10, 4, but + "5 13456 34 34 34 34", 1);
        dueRead(10, 4, but + "5 13456 126 34 146 34 16 34 126 34", 1);
        dueRead(10, 4, but + "5 13456 4 14", 1);
        dueRead(10, 4, but + "5 13456 34 4 14 14", 1);
        dueRead(10, 4, times(38, "134") + "136 134 3", 1);
        dueRead(10, 4, times(38, "134") + "1236 134 3 3", 1);
        dueRead(10, 4, times(38, "134") + "1236 5 13456 3 3 34 4 14 14", 1);
    }

    static void p07_fault_behindThe40thAndItsParts() {
        String but = times(39, "134");
        dueFault(10, 4, but + "5 13456 146", 41);
        dueFault(10, 4, but + "5 13456 146 13456", 41);
        dueFault(10, 4, but + "5 13456 126", 41);
        dueFault(10, 4, but + "5 13456 126 134", 41);
        dueFault(10, 4, but + "5 13456 34 34 34 34 34", 45);
        dueFault(10, 4, but + "5 13456 34 34 34 34 126 34", 45);
        dueRead(10, 4, but + "5 13456 34 34 34 34 126 345 134", 1);
        dueFault(10, 4, but + "5 13456 4 13456", 41);
        dueFault(10, 4, but + "5 13456 4 14 4 14", 43);
        dueFault(10, 4, but + "5 13456 14 14", 42);
        dueFault(10, 4, times(38, "134") + "1236 134 3 3 3", 42);
        dueFault(10, 4, forty() + " 14 14", 41);
        dueFault(10, 4, forty() + " 4 14", 40);
        dueFault(10, 4, forty() + " 45 23", 40);
        dueFault(10, 4, forty() + " 45 126 2 134", 40);
        dueFault(10, 4, forty() + " 56 12 134 45 23", 40);
    }

    static void p07_fault_thirtyNineItemsMayGoOn() {
        dueRead(10, 4, times(39, "134") + "134", 1);
        dueFault(10, 4, times(39, "134") + "2", 39);
        dueFault(10, 4, times(39, "134") + "126 2", 40);
    }

    // ---- 7 read: FAULTS behind the 600th item

    /** 20 bars of thirty, in a meter of 15 8. */
    private static String thirties() {
        return times(19, times(30, "134") + "_") + times(30, "134").trim();
    }

    static void p07_fault_the600thHasRoom() {
        Counted x = reading(15, 8, thirties());
        due("items", x.told(1), 600);
        due("the last one's bar", x.item(599, 0), 19);
        due("no more", x.item(600, 0), NONE);
    }

    static void p07_fault_behindThe600thEachOtherCell() {
        for (int c = 1; c < 64; c++) {
            String cell = dots(c);
            if (!cell.equals("3") && !cell.equals("14")) {
                dueFault(15, 8, thirties() + " " + cell, 619);
            }
        }
        dueRead(15, 8, thirties() + " 14", 20);
    }

    static void p07_fault_with600ItemsAVoice() {
        dueFault(15, 8, thirties() + " _ 134", 620);
        dueFault(15, 8, thirties() + " / 5 13456", 620);
        dueFault(15, 8, thirties() + " _ 2", 620);
        dueFault(15, 8, thirties() + " 126 345 134", 621);
        dueFault(15, 8, thirties() + " 126 345 2", 621);
    }

    static void p07_fault_with600ItemsTheEnd() {
        dueRead(15, 8, thirties(), 20);
        dueFault(15, 8, thirties() + " _", 620);
        dueFault(15, 8, thirties() + " /", 620);
        dueFault(15, 8, thirties() + " 126 345", 621);
    }

    static void p07_fault_with600ItemsRepeatedMay() {
        dueRead(15, 8, thirties() + " _ 2356", 21);
        dueRead(15, 8, thirties() + times(40, " / 2356"), 60);
        dueFault(15, 8, thirties() + times(40, " / 2356") + " _ 2356", 700);
        dueFault(15, 8, thirties() + " _ 2356 _ 134", 622);
        dueFault(15, 8, thirties() + " _ 2356 _", 622);
        dueFault(15, 8, "56 12 " + thirties() + " _ 2356", 622);
    }

    static void p07_fault_with599ItemsAVoiceOfOne() {
        String row = times(14, times(40, "134") + "_") + times(38, "134 _") + "134";
        due("items", reading(10, 4, row).told(1), 599);
        dueRead(10, 4, row + " _ 134", 54);
        dueRead(10, 4, row + " 126 345 134", 53);
        int end = 14 * 41 + 39 * 2 - 1;
        dueFault(10, 4, row + " _ 134 134", end + 2);
        dueFault(10, 4, row + " _ 134 _ 134", end + 3);
        dueFault(10, 4, row + " 126 345 134 _ 134", end + 4);
    }

    static void p07_fault_behindThe600thThatIsNotWhole() {
        dueFault(15, 8, times(19, times(30, "134") + "_") + times(29, "134") + "136", 619);
        dueFault(15, 8, times(19, times(30, "134") + "_") + times(29, "134") + "136 _ 2356", 619);
    }

    // ---- 7 read: FAULTS of a 4th voice and a 61st bar

    static void p07_fault_theFourthVoice() {
        String three = "134 126 345 134 126 345 134";
        dueRead(three, 1);
        dueFault(three + " 126 345 134", 9);
        dueFault(three + " 126 345 2", 9);
        dueFault(three + " 126 345", 9);
        dueFault(three + " 126 345 _ 134", 9);
        dueRead(three + " _ " + three, 2);
        dueFault(three + " _ " + three + " 126 345 134", 17);
    }

    static void p07_fault_the61stBar() {
        String sixty = "134" + times(59, " _ 134");
        dueRead(sixty, 60);
        dueFault(sixty + " _ 134", 120);
        dueFault(sixty + " / 134", 120);
        dueFault(sixty + " _ 2356", 120);
        dueFault(sixty + " _ 2", 120);
        dueFault(sixty + " _", 120);
        dueFault(sixty + " /", 120);
        dueRead(sixty + " 126 345 134 126 345 134", 60);
        dueFault(sixty + " 134", 120);
        dueRead("134" + times(59, " / 2356"), 60);
        dueFault("134" + times(60, " / 2356"), 120);
    }

    public static void main(String[] args) {
        runAll(ReadEdgeTests.class);
    }
}
