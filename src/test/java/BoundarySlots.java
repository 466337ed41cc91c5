/** Promises 50 to 56: judge, counts, IMAGES and SLOTS. */
final class BoundarySlots extends Boundary {
    static void all() {
        judge();
        judgeNone();
        judgeNothing();
        count();
        keep();
        back();
        backNothing();
        row();
        rowNone();
        rowBelow();
        writeCut();
        writeNone();
        writeNothing();
        writeNumber();
        paste();
        pasteNone();
        pasteNothing();
        pasteWidth();
        pasteBeyond();
    }

    private static void judge() {
        says(50, "the first place at which it is not as CALLS are (as many as there are, if it is all along).");
        BingoHall x = Check.hall(EIGHT);
        long[] all = {4, 1, 6, 3, 5, 2, 8, 7};
        for (int n = 0; n <= 8; n++) {
            x.row(0, 3, n);
            for (int i = 0; i < n; i++) {
                x.write(0, i, all[i]);
            }
            due("all along, of " + n, x.judge(0), n);
        }
        for (int at = 7; at >= 0; at--) {
            x.write(0, at, all[at] + (1L << 32));
            due("wrong at " + at, x.judge(0), at);
            x.write(0, at, all[at] == 8 ? 7 : all[at] + 1);
            due("another at " + at, x.judge(0), at);
        }
        Check.put(x, 0, 4, 1, 6, 3, 5, 2, 8, 7, 4);
        due("more than CALLS", x.judge(0), 8);
        x.row(0, 3, 9);
        due("nothing right", x.judge(0), 0);
        BingoHall y = Check.hall(LARGEST);
        y.row(0, 0, 60);
        int[] calls = new Draws(1).mixed(45);
        for (int i = 0; i < 45; i++) {
            due("right up to " + i, y.judge(0), i);
            y.write(0, i, calls[i]);
        }
        due("right, and fifteen more", y.judge(0), 45);
    }

    private static void judgeNone() {
        says(50, "-2: there is no such SLOT, no HALL");
        BingoHall x = Check.hall(EIGHT);
        Check.put(x, 0, 4, 1);
        Check.put(x, 3, 4);
        within("judge", -2, 0, 2, 3, 1, x::judge);
        BingoHall y = new BingoHall();
        due("no HALL ahead of nothing", y.judge(0), -2);
        y.row(0, 0, 0);
        due("no HALL", y.judge(0), -2);
    }

    private static void judgeNothing() {
        says(50, "-6: it has nothing.");
        BingoHall x = Check.hall(EIGHT);
        due("nothing", x.judge(1), -6);
        x.row(1, 0, 0);
        due("an empty row", x.judge(1), 0);
        due("another SLOT still", x.judge(2), -6);
    }

    private static void count() {
        says(51, "0 CARDS, 1 rows, 2 each, 3 COLUMNS, 4 SOLD ones, 5 LINES, 6 bytes of the TAPE, 7 JACKPOT,"
            + " 8 by which CALL, 9 SLOTS that have a row. NONE for others.");
        BingoHall x = Check.hall("hall cards 2 rows 3 each 1 columns 3 3; jackpot 55 by 6; sold 7;");
        int[] counts = {2, 3, 1, 2, 1, 3, 0, 55, 6, 0};
        for (int what = 0; what < 10; what++) {
            due("count(" + what + ")", x.count(what), counts[what]);
        }
        within("count", -1, 0, 2, 9, 0, x::count);
        for (int slot = 0; slot < 4; slot++) {
            x.row(slot, slot, 0);
            due("count(9)", x.count(9), slot + 1);
        }
        x.row(3, 0, 5);
        due("count(9), in place of another", x.count(9), 4);
        x.feed(1, 2, 3, 4, 5);
        due("count(6)", x.count(6), 20);
        x.end(7);
        due("count(6)", x.count(6), 7);
    }

    private static void keep() {
        says(52, "IMAGE k (0 .. 2) keeps the HALL, what is SOLD, CALLS: 0. -2: no such k.");
        BingoHall x = Check.hall(SOLD_EIGHT);
        within("keep", -2, 0, 0, 2, 0, x::keep);
        due("keep(1)", x.keep(1), 0);
        x.unsell();
        x.caller(0);
        Check.read(x, TWO);
        x.keep(1);
        for (int k = 0; k < 3; k += 2) {
            due("back(" + k + ")", x.back(k), 0);
            due("numbers() of " + k, x.numbers(), 8);
            due("sold(3) of " + k, x.sold(3), 7);
            due("first(0) of " + k, x.first(0), 2);
            calls("of " + k, x, 4, 1, 6, 3, 5, 2, 8, 7);
        }
        due("back(1)", x.back(1), 0);
        due("numbers() of the later one", x.numbers(), 2);
        due("no HALL is kept, too", new BingoHall().keep(0), 0);
    }

    private static void back() {
        says(53, "These are as IMAGE k has them: 0. -2: no such k");
        BingoHall x = Check.hall(SOLD_EIGHT + "prize row 101; jackpot 999 by 7; caller 2;");
        x.keep(0);
        x.keep(1);
        x.keep(2);
        within("back", -2, 0, 0, 2, 0, x::back);
        Check.read(x, ALL_SOLD);
        Check.put(x, 1, 7, 7);
        Check.feed(x, "caller");
        due("back(0)", x.back(0), 0);
        int[] counts = {2, 2, 2, 3, 4, 8, 6, 999, 7, 1};
        for (int what = 0; what < 10; what++) {
            due("count(" + what + ")", x.count(what), counts[what]);
        }
        calls("of seed 2", x, 1, 6, 3, 7, 4, 8, 5, 2);
        due("called(2)", x.called(2), 8);
        due("plans()", x.plans(), 2);
        due("prize(0, 1) + parts", x.prize(0, 1) + x.winner(0, -1) * x.prize(0, 0), 101);
        due("column(2, 0)", x.column(2, 0), 7);
        due("column(3, 0)", x.column(3, 0), -2);
        due("sell(1), the same as 0", x.sell(1), -5);
        due("sell(9999)", x.sell(9999), 5);
        due("the IMAGE stays", x.back(0), 0);
        due("the IMAGE stays", x.count(4), 4);
        for (int i = 0; i < 3; i++) {
            x.back(1);
            due("plans() of one more time", x.plans(), 2);
            due("made(2) of one more time", x.made(2), 1);
            x.keep(1);
        }
        backOf45();
        BingoHall y = new BingoHall();
        y.keep(0);
        Check.read(y, TWO);
        due("back to no HALL", y.back(0), 0);
        due("no HALL", y.numbers(), -2);
        due("no LINES", y.count(5), 0);
    }

    private static void backOf45() {
        BingoHall x = Check.hall(ALL_SOLD);
        int[] calls = new Draws(1).mixed(45);
        x.keep(2);
        Check.read(x, TWO);
        x.back(2);
        for (int i = 0; i < 45; i++) {
            due("call(" + i + ") of 45", x.call(i), calls[i]);
            due("called(" + calls[i] + ") of 45", x.called(calls[i]), i + 1);
        }
        for (int place = 0; place < 8; place++) {
            due("sold(" + place + ") of eight", x.sold(place), place);
            due("its STRIP", x.race(2, 7 - place) == -1 ? 1 : 0, 0);
        }
        due("first(2) of eight", x.first(2), Check.hall(ALL_SOLD).first(2));
        due("a ninth", x.sell(8), -3);
    }

    private static void backNothing() {
        says(53, "-6: it has nothing.");
        BingoHall x = Check.hall(TWO);
        for (int k = 0; k < 3; k++) {
            due("back(" + k + ")", x.back(k), -6);
        }
        x.keep(1);
        due("back(0)", x.back(0), -6);
        due("back(1)", x.back(1), 0);
        due("back(2)", x.back(2), -6);
        due("nothing happens", x.numbers(), 2);
    }

    private static void row() {
        says(54, "A SLOT (0 .. 3) has a row of n numbers of a WIDTH, all 0 (in place of another one): 0.");
        BingoHall x = Check.hall(EIGHT);
        Check.put(x, 0, 4, 1, 6);
        due("judge(0)", x.judge(0), 3);
        due("row(0, 3, 3)", x.row(0, 3, 3), 0);
        due("all 0", x.judge(0), 0);
        Check.put(x, 1, 2, 1, 1);
        due("layouts(1)", x.layouts(1), 2);
        x.row(1, 3, 3);
        x.write(1, 0, 2);
        due("all 0 but the first", x.layouts(1), 0);
        x.write(1, 1, 2);
        due("the third is 0", x.layouts(1), 1);
        x.row(1, 3, 2);
        due("write of the third", x.write(1, 2, 1), -7);
        due("write of the second", x.write(1, 1, 1), 0);
        x.row(1, 0, 1);
        due("of another WIDTH", x.paste(1, 0, 0, 0, 1), -8);
        x.row(1, 3, 1);
        due("of one WIDTH", x.paste(1, 0, 0, 0, 1), 0);
    }

    private static void rowNone() {
        says(54, "-2: there is no such SLOT or WIDTH (0 .. 3), or n is above 60");
        BingoHall x = new BingoHall();
        within("row(slot, 0, 0)", -2, 0, 0, 3, 0, slot -> x.row(slot, 0, 0));
        within("row(0, width, 0)", -2, 0, 0, 3, 0, width -> x.row(0, width, 0));
        due("row(0, 0, 0)", x.row(0, 0, 0), 0);
        due("row(0, 0, 60)", x.row(0, 0, 60), 0);
        due("row(0, 0, 61)", x.row(0, 0, 61), -2);
        due("row(0, 0, MAX)", x.row(0, 0, MAX), -2);
        due("it stays", x.write(0, 59, 1), 0);
        due("row(1, 4, 1)", x.row(1, 4, 1), -2);
        due("nothing is put there", x.count(9), 2);
    }

    private static void rowBelow() {
        says(54, "-3, and the SLOT stays: n is below 0.");
        BingoHall x = Check.hall(EIGHT);
        Check.put(x, 0, 4, 1, 6);
        due("row(0, 3, -1)", x.row(0, 3, -1), -3);
        due("row(0, 0, MIN)", x.row(0, 0, MIN), -3);
        due("the SLOT stays", x.judge(0), 3);
        due("row(1, 3, -1)", x.row(1, 3, -1), -3);
        due("none stays none", x.write(1, 0, 0), -6);
        due("WIDTH ahead of below 0", x.row(0, 4, -1), -2);
        due("SLOT ahead of below 0", x.row(4, 0, -1), -2);
        due("row(0, 3, 0)", x.row(0, 3, 0), 0);
        due("an empty row", x.judge(0), 0);
    }

    private static void writeCut() {
        says(55, "Number i of the SLOT's row is v, cut to its WIDTH: 0.");
        int[] bits = {8, 16, 32, 64};
        for (int width = 0; width < 4; width++) {
            BingoHall x = Check.hall(EIGHT);
            x.row(0, width, 1);
            for (int shift = 3; shift < 64; shift++) {
                due("write", x.write(0, 0, 4 | 1L << shift), 0);
                due("bit " + shift + " of WIDTH " + width, x.judge(0), shift >= bits[width] ? 1 : 0);
            }
            x.write(0, 0, Long.MIN_VALUE + 4);
            due("the least of WIDTH " + width, x.judge(0), width == 3 ? 0 : 1);
            x.write(0, 0, -252);
            due("-252 of WIDTH " + width, x.judge(0), width == 0 ? 1 : 0);
            x.write(0, 0, -4);
            due("-4 of WIDTH " + width, x.judge(0), 0);
        }
        // The sign is the highest bit of the WIDTH: 127 was paid, 128 was not.
        BingoHall y = Check.hall(SOLD_EIGHT + "prize row 100;");
        long[][] paid = {{0, 127, 100}, {0, 128, -2}, {0, 255, -2}, {0, 257, 100}, {1, 9999, 100}, {1, 65537, 100}, {1, 32768, -2},
            {2, (1L << 32) + 7, 100}, {2, 1L << 31, -2}, {3, (1L << 32) + 7, -2}};
        for (long[] it : paid) {
            Check.putCut(y, 1, (int) it[0], it[1]);
            due("paid " + it[1] + " of WIDTH " + it[0], y.share(1, 0), it[2]);
        }
    }

    private static void writeNone() {
        says(55, "-2: there is no such SLOT");
        BingoHall x = new BingoHall();
        x.row(0, 0, 1);
        x.row(3, 0, 1);
        within("write(slot, 0, 1)", -2, 0, 0, 3, 0, slot -> x.write(slot, 0, 1));
    }

    private static void writeNothing() {
        says(55, "-6: it has nothing");
        BingoHall x = new BingoHall();
        due("nothing", x.write(2, 0, 1), -6);
        due("nothing ahead of no number", x.write(2, -1, 1), -6);
        x.row(2, 0, 1);
        due("a row", x.write(2, 0, 1), 0);
        due("another SLOT still", x.write(1, 0, 1), -6);
    }

    private static void writeNumber() {
        says(55, "-7: there is no such number.");
        BingoHall x = Check.hall(EIGHT);
        x.row(0, 3, 3);
        within("write(0, i, 4)", -7, 0, 0, 2, 0, i -> x.write(0, i, 4));
        due("the first is written", x.judge(0), 1);
        x.row(0, 3, 60);
        within("write(0, i, 4) of sixty", -7, 0, 0, 59, 0, i -> x.write(0, i, 4));
        x.row(0, 3, 0);
        due("of none", x.write(0, 0, 4), -7);
    }

    private static void paste() {
        says(56, "So many numbers of a SLOT's row, from one on, are put to another one's (or its own), from one on, as they were: 0.");
        BingoHall x = Check.hall(EIGHT);
        for (int width = 0; width < 4; width++) {
            Check.putCut(x, 0, width, 9, 4, 1, 6, 3);
            Check.putCut(x, 1, width, 7, 7, 7);
            due("two", x.paste(0, 1, 1, 0, 2), 0);
            due("two, and not a third", x.judge(1), 2);
            due("all of another", x.paste(0, 1, 1, 0, 3), 0);
            due("three", x.judge(1), 3);
            due("its own, forth", x.paste(0, 1, 0, 0, 4), 0);
            due("as they were", x.judge(0), 4);
            due("its own, back", x.paste(0, 0, 0, 1, 4), 0);
            x.write(0, 0, 4);
            x.write(0, 1, 1);
            due("4 1 1 6 3", x.judge(0), 2);
            due("its own, forth", x.paste(0, 2, 0, 1, 3), 0);
            due("4 1 6 3 3", x.judge(0), 4);
            due("its own, on itself", x.paste(0, 0, 0, 0, 5), 0);
            due("4 1 6 3 3 still", x.judge(0), 4);
        }
    }

    private static void pasteNone() {
        says(56, "-2: there is no such SLOT");
        BingoHall x = new BingoHall();
        for (int slot = 0; slot < 4; slot++) {
            x.row(slot, 0, 1);
        }
        within("paste(slot, ..)", -2, 0, 0, 3, 0, slot -> x.paste(slot, 0, 1, 0, 1));
        within("paste(.., to, ..)", -2, 0, 0, 3, 0, to -> x.paste(1, 0, to, 0, 1));
        BingoHall y = new BingoHall();
        due("no SLOT ahead of nothing", y.paste(4, 0, 0, 0, 0), -2);
        due("no SLOT ahead of nothing", y.paste(0, 0, 4, 0, 0), -2);
    }

    private static void pasteNothing() {
        says(56, "-6: one has nothing");
        BingoHall x = new BingoHall();
        due("both", x.paste(0, 0, 1, 0, 0), -6);
        x.row(0, 0, 1);
        due("the other", x.paste(0, 0, 1, 0, 0), -6);
        due("the one", x.paste(1, 0, 0, 0, 0), -6);
        due("ahead of beyond", x.paste(1, 5, 0, 9, 9), -6);
        x.row(1, 0, 1);
        due("none", x.paste(0, 0, 1, 0, 0), 0);
    }

    private static void pasteWidth() {
        says(56, "-8: they are not of one WIDTH");
        BingoHall x = new BingoHall();
        for (int one = 0; one < 4; one++) {
            for (int other = 0; other < 4; other++) {
                x.row(0, one, 2);
                x.row(1, other, 2);
                due("of " + one + " and " + other, x.paste(0, 0, 1, 0, 1), one == other ? 0 : -8);
                due("beyond, of " + one + " and " + other, x.paste(0, 0, 1, 0, 3), one == other ? -7 : -8);
            }
        }
    }

    private static void pasteBeyond() {
        says(56, "-7, and nothing happens: some are beyond their rows (also where n is 0, a place above how many it has),"
            + " or a place or n is below 0.");
        BingoHall x = Check.hall(EIGHT);
        Check.put(x, 0, 4, 1, 6, 3);
        x.row(1, 3, 3);
        int[][] beyond = {{0, 0, 4}, {2, 0, 3}, {3, 0, 2}, {4, 0, 1}, {0, 3, 1}, {0, 2, 2}, {0, 1, 3}, {5, 0, 0}, {0, 4, 0}, {-1, 0, 0}, {0, -1, 0},
            {-1, 0, 1}, {0, -1, 1}, {-1, 0, 3}, {0, 0, -1}, {1, 1, -1}, {4, 3, -1}, {MAX, 0, MAX}, {0, MAX, MAX}, {0, 0, MAX}, {MAX, 0, 1},
            {0, MAX, 1}, {MAX, MAX, 0}, {MIN, 0, 0}, {0, MIN, 0}, {0, 0, MIN}, {MIN, MIN, MIN}, {MIN, 0, MIN}};
        for (int[] it : beyond) {
            due("paste(0, " + it[0] + ", 1, " + it[1] + ", " + it[2] + ")", x.paste(0, it[0], 1, it[1], it[2]), -7);
        }
        due("nothing happens", x.judge(1), 0);
        due("nothing happens", x.judge(0), 4);
        int[][] good = {{4, 3, 0}, {0, 3, 0}, {4, 0, 0}, {3, 2, 1}, {0, 0, 0}};
        for (int[] it : good) {
            due("paste(0, " + it[0] + ", 1, " + it[1] + ", " + it[2] + ")", x.paste(0, it[0], 1, it[1], it[2]), 0);
        }
        due("not yet", x.judge(1), 0);
        due("paste(0, 0, 1, 0, 3)", x.paste(0, 0, 1, 0, 3), 0);
        due("three", x.judge(1), 3);
        due("of its own, beyond", x.paste(1, 1, 1, 0, 3), -7);
        due("of its own", x.paste(1, 1, 1, 0, 2), 0);
    }
}
