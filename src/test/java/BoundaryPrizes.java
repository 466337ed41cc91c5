/** Promises 28 to 43: who is first and what that brings, and what is seen of CARDS and of those SOLD. */
final class BoundaryPrizes extends Boundary {
    /** As SOLD_EIGHT with money; the first row is 2 CARDS', behind 2, the first house 4 CARDS', behind 7. */
    private static final String RICH_EIGHT = SOLD_EIGHT + "prize row 101; prize two 10; prize house 1000; jackpot 999 by 7;";

    static void all() {
        firstNone();
        firstNoKind();
        winnerHowMany();
        winnerNotSoMany();
        winnerLess();
        prizeLeft();
        prizeNoSuch();
        jackpotWon();
        jackpotMissed();
        jackpotNoWhat();
        wins();
        bookReach();
        bookUnlike();
        bookNone();
        shapedNone();
        shapedPlaces();
        shapedNothing();
        shapeFirst();
        shapeNone();
        shapeNoSuch();
        corners();
        filled();
        last();
        sweat();
        sweatNone();
        nearest();
        nearestNone();
        slowCounts();
        slowTimes();
        slowPlaces();
        slowNone();
        race();
        raceNone();
        shareBuyers();
        shareLeft();
        shareNone();
        shareNothing();
        shareNoBuyer();
    }

    private static void firstNone() {
        says(28, "behind how many CALLS a CARD of a STRIP that is SOLD has a KIND first. NONE: none does, none is SOLD");
        BingoHall x = Check.hall(SOLD_EIGHT);
        int[] due = {2, 7, 7};
        for (int kind = 0; kind < 3; kind++) {
            due("first(" + kind + ")", x.first(kind), due[kind]);
        }
        BingoHall none = Check.hall(EIGHT);
        due("none is SOLD", none.first(0), -1);
        none.sell(0);
        due("one is SOLD", none.first(0), 5);
        none.unsell();
        due("none is SOLD any more", none.first(0), -1);
        BingoHall one = Check.hall(TWO + "sold 0;");
        due("none does: two of one row", one.first(1), -1);
        due("row of one row", one.first(0), 2);
        due("house of one row", one.first(2), 2);
    }

    private static void firstNoKind() {
        says(28, "-2: there is no such KIND, no HALL.");
        BingoHall x = Check.hall(SOLD_EIGHT);
        within("first", -2, 0, 2, 2, 7, x::first);
        BingoHall none = Check.hall(EIGHT);
        within("first, none is SOLD", -2, 0, -1, 2, -1, none::first);
        due("no HALL", new BingoHall().first(0), -2);
    }

    private static void winnerHowMany() {
        says(29, "How many CARDS have it then (what NONE), the i-th of them (what i): 10 times the place among those SOLD and the CARD.");
        BingoHall x = Check.hall(SOLD_EIGHT);
        due("winner(0, NONE)", x.winner(0, -1), 2);
        due("winner(2, NONE)", x.winner(2, -1), 4);
        due("winner(0, 0)", x.winner(0, 0), 10);
        due("winner(0, 1)", x.winner(0, 1), 30);
        due("none is SOLD", Check.hall(EIGHT).winner(0, -1), 0);
        due("none does", Check.hall(TWO + "sold 0;").winner(1, -1), 0);
        BingoHall all = Check.hall(ALL_SOLD);
        int turn = all.first(2);
        due("the last place and CARD can win", winsAtLast(all, turn), 72);
        due("none behind the last", all.winner(2, 1), -1);
        due("the last alone", all.winner(2, -1), 1);
        firstPlaceLast();
    }

    /** The first row of the first CARD of 45 NUMBERS wins, with what is at the first place called last. */
    private static void firstPlaceLast() {
        BingoHall x = Check.hall(LARGEST + "sold 0; prize row 100;");
        long[] calls = new long[45];
        int at = 0;
        for (int column = 4; column >= 0; column--) {
            calls[at++] = x.cell(0, 0, 0, column);
        }
        for (int number = 1; number <= 45; number++) {
            if (x.where(0, number) >= 10) {
                calls[at++] = number;
            }
        }
        Check.put(x, 0, calls);
        due("calls of the first row first", x.calls(0), 0);
        due("its row", x.first(0), 5);
        due("one CARD", x.winner(0, -1), 1);
        due("the first", x.winner(0, 0), 0);
        due("and no other", x.winner(0, 1), -1);
        due("which has it all", x.prize(0, 0), 100);
        due("and wins it once", x.wins(0), 100);
    }

    /** What winner() tells first of a HALL whose CALLS end with what is not on the last CARD. */
    private static int winsAtLast(BingoHall x, int turn) {
        int at = 0;
        long[] calls = new long[45];
        for (int own = 1; own >= 0; own--) {
            for (int number = 1; number <= 45; number++) {
                if (x.where(7, number) / 100 == 2 == (own == 1)) {
                    calls[at++] = number;
                }
            }
        }
        Check.put(x, 0, calls);
        due("calls of the last CARD first", x.calls(0), 0);
        due("its house", x.first(2), 15);
        due("not as by seed 1", turn > 15 ? 1 : 0, 1);
        return x.winner(2, 0);
    }

    private static void winnerNotSoMany() {
        says(29, "NONE: there are not so many");
        BingoHall x = Check.hall(SOLD_EIGHT);
        int[] houses = {1, 10, 20, 30, -1, -1};
        for (int i = 0; i < 6; i++) {
            due("winner(2, " + i + ")", x.winner(2, i), houses[i]);
        }
        due("winner(0, 1)", x.winner(0, 1), 30);
        due("winner(0, 2)", x.winner(0, 2), -1);
        due("winner(0, MAX)", x.winner(0, MAX), -1);
        BingoHall one = Check.hall(TWO + "sold 0;");
        due("of one CARD, the first", one.winner(0, 0), 0);
        due("of one CARD, a second", one.winner(0, 1), -1);
        due("none is SOLD", Check.hall(EIGHT).winner(0, 0), -1);
        due("none does", Check.hall(TWO + "sold 0;").winner(1, 0), -1);
    }

    private static void winnerLess() {
        says(29, "-2 likewise, what is less.");
        BingoHall x = Check.hall(SOLD_EIGHT);
        due("winner(0, -1)", x.winner(0, -1), 2);
        due("winner(0, -2)", x.winner(0, -2), -2);
        due("winner(0, MIN)", x.winner(0, MIN), -2);
        within("winner(kind, 0)", -2, 0, 10, 2, 1, kind -> x.winner(kind, 0));
        within("winner(kind, NONE)", -2, 0, 2, 2, 4, kind -> x.winner(kind, -1));
        due("none is SOLD, less", Check.hall(EIGHT).winner(0, -2), -2);
        due("no HALL", new BingoHall().winner(0, -1), -2);
    }

    private static void prizeLeft() {
        says(30, "what 0: each has, 1: what is left over (all of it, if there are none).");
        BingoHall x = Check.hall(RICH_EIGHT);
        int[][] prizes = {{50, 1}, {2, 2}, {250, 0}};
        for (int kind = 0; kind < 3; kind++) {
            due("prize(" + kind + ", 0)", x.prize(kind, 0), prizes[kind][0]);
            due("prize(" + kind + ", 1)", x.prize(kind, 1), prizes[kind][1]);
        }
        BingoHall none = Check.hall(EIGHT + "prize row 101;");
        due("each of none", none.prize(0, 0), 0);
        due("left of none", none.prize(0, 1), 101);
        none.sell(0);
        due("each of one", none.prize(0, 0), 101);
        due("left of one", none.prize(0, 1), 0);
        BingoHall one = Check.hall(TWO + "sold 0; prize two 77;");
        due("none does: each", one.prize(1, 0), 0);
        due("none does: left", one.prize(1, 1), 77);
    }

    private static void prizeNoSuch() {
        says(30, "-2: there is no such KIND, what, no HALL.");
        BingoHall x = Check.hall(RICH_EIGHT);
        within("prize(kind, 0)", -2, 0, 50, 2, 250, kind -> x.prize(kind, 0));
        within("prize(1, what)", -2, 0, 2, 1, 2, what -> x.prize(1, what));
        due("no HALL", new BingoHall().prize(0, 0), -2);
    }

    private static void jackpotWon() {
        says(31, "what 0: what the winners of the first house have more in all (each alike, whole; 0: it is not won)");
        int[][] told = {{999, 7, 996}, {999, 8, 996}, {999, 6, 0}, {3, 7, 0}, {4, 7, 4}, {9999, 7, 9996}, {0, 7, 0}};
        for (int[] it : told) {
            BingoHall x = Check.hall(SOLD_EIGHT + "jackpot " + it[0] + " by " + it[1] + ";");
            due("jackpot(0) of " + it[0] + " by " + it[1], x.jackpot(0), it[2]);
        }
        due("of one winner", Check.hall(EIGHT + "sold 0; jackpot 999 by 7;").jackpot(0), 999);
        due("of no house", Check.hall(EIGHT + "jackpot 999 by 8;").jackpot(0), 0);
        due("of no JACKPOT", Check.hall(SOLD_EIGHT).jackpot(0), 0);
    }

    private static void jackpotMissed() {
        says(31, "1: by how many CALLS it is missed (0: it is won; NONE: there is none, no house).");
        int[] missed = {6, 5, 4, 3, 2, 1, 0, 0};
        for (int by = 1; by <= 8; by++) {
            due("jackpot(1) by " + by, Check.hall(SOLD_EIGHT + "jackpot 5 by " + by + ";").jackpot(1), missed[by - 1]);
        }
        due("there is none", Check.hall(SOLD_EIGHT).jackpot(1), -1);
        BingoHall x = Check.hall(EIGHT + "jackpot 5 by 8;");
        due("no house", x.jackpot(1), -1);
        x.sell(0);
        due("a house", x.jackpot(1), 0);
        due("none, no house", Check.hall(EIGHT).jackpot(1), -1);
    }

    private static void jackpotNoWhat() {
        says(31, "-2: there is no such what, no HALL.");
        BingoHall x = Check.hall(SOLD_EIGHT + "jackpot 999 by 6;");
        within("jackpot", -2, 0, 0, 1, 1, x::jackpot);
        due("no HALL", new BingoHall().jackpot(0), -2);
        due("no HALL", new BingoHall().jackpot(1), -2);
    }

    private static void wins() {
        says(32, "What a STRIP that is SOLD (by its place) wins in all, with its part of the JACKPOT. -2: there is none such.");
        BingoHall x = Check.hall(RICH_EIGHT);
        int[] wins = {501, 551, 501, 551};
        for (int i = 0; i < 4; i++) {
            due("wins(" + i + ")", x.wins(i), wins[i]);
        }
        within("wins", -2, 0, 501, 3, 551, x::wins);
        x.unsell();
        due("wins(3) taken back", x.wins(3), -2);
        due("none is SOLD", Check.hall(EIGHT).wins(0), -2);
        due("no HALL", new BingoHall().wins(0), -2);
        BingoHall y = Check.hall(ALL_SOLD);
        within("wins of eight", -2, 0, 0, 7, 0, y::wins);
        BingoHall most = Check.hall(TWO + "sold 0; prize row 9999; prize house 9999; prize two 9999; jackpot 9999 by 2;");
        due("all but two of one row", most.wins(0), 29997);
        due("by 1: missed", Check.hall(TWO + "sold 0; prize house 9999; jackpot 9999 by 1;").wins(0), 9999);
        // Three rows: row, two and house are had behind 2, 4 and 6.
        int[] three = {11, 111};
        for (int by = 5; by <= 6; by++) {
            BingoHall z = Check.hall(THREE_ROWS + "sold 0; prize row 1; prize two 2; prize house 8; jackpot 100 by " + by + ";");
            Check.put(z, 0, 1, 4, 2, 5, 3, 6);
            z.calls(0);
            due("of three rows by " + by, z.wins(0), three[by - 5]);
        }
    }

    private static void bookReach() {
        says(33, "of a SERIAL and the 39 behind it (9,999 at most)");
        BingoHall x = Check.hall(LARGEST);
        int[][] due = {{0, 39, 39}, {0, 40, -1}, {100, 39, 139}, {100, 40, -1}, {9959, 39, 9998}, {9960, 39, 9999},
            {9961, 38, 9999}, {9961, 39, -1}, {9998, 1, 9999}, {9998, 2, -1}, {9999, 0, 9999}, {9999, 1, -1}};
        for (int[] it : due) {
            due("book(" + it[0] + ", " + it[1] + ")", x.book(it[0], it[1]), it[2]);
        }
        // Also where some are the same: the STRIP of serial 40 is unlike all ahead of it, and so is that of 39.
        BingoHall y = Check.hall(EIGHT);
        int[][] fewer = {{0, 35, 39}, {0, 36, -1}, {1, 36, 40}, {1, 37, -1}, {26, 28, 65}, {26, 29, -1}};
        for (int[] it : fewer) {
            due("book(" + it[0] + ", " + it[1] + ") of EIGHT", y.book(it[0], it[1]), it[2]);
        }
    }

    private static void bookUnlike() {
        says(33, "those whose STRIP is unlike all ahead of it in the BOOK: the i-th (0: the SERIAL itself).");
        BingoHall x = Check.hall(CROSS);
        int[][] due = {{0, 0, 0}, {0, 1, 2}, {0, 2, -1}, {1, 0, 1}, {1, 1, 2}, {2, 0, 2}, {2, 1, 4}, {3, 0, 3}, {3, 1, 4}, {3, 2, -1}};
        for (int[] it : due) {
            due("book(" + it[0] + ", " + it[1] + ")", x.book(it[0], it[1]), it[2]);
        }
        BingoHall y = Check.hall(TWO);
        due("of one STRIP", y.book(500, 0), 500);
        due("of one STRIP", y.book(500, 1), -1);
        BingoHall z = Check.hall(EIGHT);
        due("not the same as the first", z.book(0, 1), 2);
        due("from the next", z.book(1, 0), 1);
    }

    private static void bookNone() {
        says(33, "NONE: there are not so many; -2: there is none such, no HALL.");
        BingoHall x = Check.hall(CROSS);
        within("book(0, i)", -1, 0, 0, 1, 2, i -> x.book(0, i));
        within("book(serial, 0)", -2, 0, 0, 9999, 9999, serial -> x.book(serial, 0));
        due("no SERIAL ahead of not so many", x.book(10000, 99), -2);
        due("no HALL", new BingoHall().book(0, 0), -2);
    }

    private static void shapedNone() {
        says(34, "10 times the row and the COLUMN each: behind how many CALLS all NUMBERS of a CARD that are on these are called"
            + " (0: there are none).");
        BingoHall x = Check.hall(EIGHT);
        x.row(0, 0, 0);
        due("of no places", x.shaped(0, 0, 0), 0);
        // CARD 0: 0 4 7 / 2 6 0, called behind 1, 8, 6, 3.
        long[][] places = {{0, 0}, {12, 0}, {1, 1}, {2, 8}, {10, 6}, {11, 3}};
        for (long[] it : places) {
            Check.put(x, 0, it[0]);
            due("of " + it[0], x.shaped(0, 0, 0), it[1]);
        }
        Check.put(x, 0, 0, 12, 0);
        due("of places with nothing", x.shaped(0, 0, 0), 0);
        Check.put(x, 0, 0, 11, 12, 1);
        due("of some with nothing", x.shaped(0, 0, 0), 3);
        Check.put(x, 0, 11, 11, 10, 11);
        due("of the same twice", x.shaped(0, 0, 0), 6);
        x.row(0, 0, 60);
        x.write(0, 59, 2);
        due("of sixty places", x.shaped(0, 0, 0), 8);
    }

    private static void shapedPlaces() {
        says(34, "-2: there are none such, a number is no place (asked last)");
        BingoHall x = Check.hall(EIGHT);
        Check.put(x, 0, 2);
        Check.put(x, 3, 1);
        int[][] due = {{0, 0}, {2, 8}, {3, -2}, {9, -2}, {10, 6}, {12, 0}, {13, -2}, {19, -2}, {20, -2}, {22, -2}, {102, -2},
            {110, -2}, {-1, -2}, {-10, -2}, {-11, -2}, {MAX, -2}, {MIN, -2}};
        for (int[] it : due) {
            x.write(0, 0, it[0]);
            due("of " + it[0], x.shaped(0, 0, 0), it[1]);
        }
        x.write(0, 0, 1L << 32);
        due("of 2 to the 32nd", x.shaped(0, 0, 0), -2);
        Check.put(x, 0, 2, 3);
        due("a later one", x.shaped(0, 0, 0), -2);
        Check.put(x, 0, 2);
        within("shaped(0, 0, slot)", -2, 0, 8, 3, 1, slot -> x.shaped(0, 0, slot));
        BoundaryCalls.cardBounds("shaped(.., 3)", (serial, card) -> x.shaped(serial, card, 3), 1, 0, 3, 1);
        due("no SERIAL ahead of nothing", x.shaped(10000, 0, 1), -2);
        due("no CARD ahead of nothing", x.shaped(0, 2, 1), -2);
        due("no HALL", new BingoHall().shaped(0, 0, 0), -2);
        BingoHall y = Check.hall(LARGEST);
        Check.put(y, 0, 24);
        due("of the last place", y.shaped(0, 2, 0), y.called(y.cell(0, 2, 2, 4)));
        y.write(0, 0, 25);
        due("beside the last place", y.shaped(0, 2, 0), -2);
        y.write(0, 0, 30);
        due("below the last place", y.shaped(0, 2, 0), -2);
    }

    private static void shapedNothing() {
        says(34, "-6: it has nothing.");
        BingoHall x = Check.hall(EIGHT);
        due("nothing", x.shaped(0, 0, 1), -6);
        x.row(1, 0, 0);
        due("an empty row", x.shaped(0, 0, 1), 0);
    }

    private static void shapeFirst() {
        says(35, "The first to have a SHAPE of those SOLD, what 0: behind how many CALLS,"
            + " 1: 10 times the place among those SOLD and the CARD, the first of several.");
        BingoHall x = Check.hall(SOLD_EIGHT);
        // Row 0, COLUMN 0: nothing, 1 | 1, 0 | 2, 1 | 1, 2, called behind 2 (1) and 6 (2).
        Check.put(x, 0, 0);
        due("nothing there is first", x.shape(0, 0), 0);
        due("nothing there is first", x.shape(0, 1), 0);
        // Row 1, COLUMN 0: 2, 3 | 3, 2 | 3, 0 | 0, 3; row 0, COLUMN 1: 4, 0 | 4, 5 | 4, 5 | 4, 0;
        // row 1, COLUMN 1: 6, 5 | 0, 6 | 0, 6 | 5, 6.
        Check.put(x, 0, 10);
        due("the first that has nothing", x.shape(0, 1), 21);
        Check.put(x, 0, 10, 1);
        due("4 alone", x.shape(0, 0), 1);
        due("4 alone", x.shape(0, 1), 30);
        Check.put(x, 0, 10, 1, 11);
        due("4 and 3, or 3 and 6", x.shape(0, 0), 4);
        due("4 and 3, or 3 and 6, the first of several", x.shape(0, 1), 10);
        // Row 0, all: 4 7, 1 8 | 1 4, 5 7 | 2 4, 1 5 | 1 4, 2 7: behind 2 for the second and the last.
        Check.put(x, 0, 0, 1, 2);
        due("a row", x.shape(0, 0), 2);
        due("a row, the first of several", x.shape(0, 1), 10);
        x.row(0, 0, 0);
        due("no places", x.shape(0, 0), 0);
        due("no places, the first of several", x.shape(0, 1), 0);
    }

    private static void shapeNone() {
        says(35, "NONE: none is SOLD");
        BingoHall x = Check.hall(EIGHT);
        x.row(0, 0, 0);
        due("none is SOLD", x.shape(0, 0), -1);
        due("none is SOLD", x.shape(0, 1), -1);
        x.sell(0);
        due("one is SOLD", x.shape(0, 0), 0);
        due("one is SOLD", x.shape(0, 1), 0);
        x.unsell();
        due("none any more", x.shape(0, 1), -1);
    }

    private static void shapeNoSuch() {
        says(35, "-2, -6 likewise, no such what.");
        BingoHall x = Check.hall(SOLD_EIGHT);
        due("nothing", x.shape(1, 0), -6);
        Check.put(x, 0, 0, 1, 2);
        Check.put(x, 3, 10, 1);
        within("shape(slot, 0)", -2, 0, 2, 3, 1, slot -> x.shape(slot, 0));
        within("shape(0, what)", -2, 0, 2, 1, 10, what -> x.shape(0, what));
        due("no what ahead of nothing", x.shape(1, 2), -2);
        int[][] due = {{0, 0}, {2, 0}, {3, -2}, {12, 0}, {13, -2}, {20, -2}, {-1, -2}, {MIN, -2}, {MAX, -2}};
        for (int[] it : due) {
            Check.put(x, 0, it[0]);
            due("of " + it[0], x.shape(0, 0) == -2 ? -2 : 0, it[1]);
        }
        BingoHall y = new BingoHall();
        due("no HALL ahead of nothing", y.shape(0, 0), -2);
        y.row(0, 0, 0);
        due("no HALL", y.shape(0, 0), -2);
    }

    private static void corners() {
        says(36, "the first and the last NUMBER of the first and of the last row of a CARD: behind how many CALLS they are all called."
            + " -2: there are none such.");
        BingoHall x = Check.hall(EIGHT);
        BoundaryCalls.cardBounds("corners", x::corners, 8, 7, 7, 8);
        due("no HALL", new BingoHall().corners(0, 0), -2);
        // 1 4 7 / 2 5 8 / 3 6 9: each corner, and none but these, can be the last.
        BingoHall y = Check.hall("hall cards 1 rows 3 each 3 columns 3 3 3;");
        for (int late = 1; late <= 9; late++) {
            long[] calls = new long[9];
            int at = 0;
            for (int corner : new int[] {1, 3, 7, 9, 2, 4, 5, 6, 8}) {
                if (corner != late) {
                    calls[at++] = corner;
                }
            }
            calls[8] = late;
            Check.put(y, 0, calls);
            y.calls(0);
            boolean isCorner = late == 1 || late == 3 || late == 7 || late == 9;
            due(late + " is the last", y.corners(0, 0), isCorner ? 9 : 4);
        }
        // All four of a CARD of EIGHT are corners, whatever is beside them.
        int[] all = {4, 7, 2, 6, 1, 8, 3, 5};
        for (int late = 0; late < 8; late++) {
            long[] calls = new long[8];
            for (int i = 0; i < 7; i++) {
                calls[i] = all[(late + 1 + i) % 8];
            }
            calls[7] = all[late];
            Check.put(x, 0, calls);
            x.calls(0);
            due(all[late] + " is the last of EIGHT", x.corners(0, late / 4), 8);
            due(all[late] + " is not on the other CARD", x.corners(0, 1 - late / 4), late < 4 ? 7 - late : 11 - late);
        }
        BingoHall z = Check.hall("hall cards 1 rows 1 each 3 columns 1 1 1;");
        Check.put(z, 0, 3, 1, 2);
        z.calls(0);
        due("of one row", z.corners(0, 0), 2);
        due("of one NUMBER a row", Check.hall(CROSS).corners(0, 0), 2);
    }

    private static void filled() {
        says(37, "Behind how many CALLS all NUMBERS of a CARD in a COLUMN are called. -2: there are none such.");
        BingoHall x = Check.hall(EIGHT);
        int[] due = {6, 3, 8};
        for (int column = 0; column < 3; column++) {
            due("filled(0, 0, " + column + ")", x.filled(0, 0, column), due[column]);
        }
        within("filled(0, 0, column)", -2, 0, 6, 2, 8, column -> x.filled(0, 0, column));
        BoundaryCalls.cardBounds("filled(.., 0)", (serial, card) -> x.filled(serial, card, 0), 6, 4, 4, 6);
        due("no HALL", new BingoHall().filled(0, 0, 0), -2);
        // 1 4 / 2 5 / 3 6: the last row counts, too.
        BingoHall y = Check.hall(THREE_ROWS);
        Check.put(y, 0, 1, 2, 5, 4, 3, 6);
        y.calls(0);
        due("of three rows", y.filled(0, 0, 0), 5);
        due("of three rows", y.filled(0, 0, 1), 6);
    }

    private static void last() {
        says(38, "The NUMBER of a CARD that is called last. -2: there are none such.");
        BingoHall x = Check.hall(EIGHT);
        BoundaryCalls.cardBounds("last", x::last, 7, 8, 8, 7);
        due("no HALL", new BingoHall().last(0, 0), -2);
        due("of two", Check.hall(TWO).last(0, 0), 1);
    }

    private static void sweat() {
        says(39, "How many CARDS of those SOLD lack just one NUMBER to a KIND by n CALLS.");
        BingoHall x = Check.hall(SOLD_EIGHT);
        // Rows by their turns: 1 8, 3 6; 2 7, 4 5 | 1 2, 4 7; 5 8, 3 6 | 1 6, 4 7; 2 5, 3 8 | 1 2, 5 7; 6 8, 3 4.
        for (int n = 0; n <= 8; n++) {
            due("sweat(0, " + n + ")", x.sweat(0, n), rowsLacking(n));
            due("sweat(2, " + n + ")", x.sweat(2, n), housesLacking(n));
        }
        due("rows by 1, by hand", x.sweat(0, 1), 4);
        due("houses by 6, by hand", x.sweat(2, 6), 8);
        due("houses by 7, by hand", x.sweat(2, 7), 4);
        due("two of one row", Check.hall(TWO + "sold 0;").sweat(1, 1), 0);
        due("row of one row", Check.hall(TWO + "sold 0;").sweat(0, 1), 1);
        due("none is SOLD", Check.hall(EIGHT).sweat(0, 1), 0);
    }

    /** Turns of the NUMBERS in each row of each CARD that SOLD_EIGHT sold. */
    private static final int[][] TURNS = {
        {1, 8, 3, 6}, {2, 7, 4, 5}, {1, 2, 4, 7}, {5, 8, 3, 6}, {1, 6, 4, 7}, {2, 5, 3, 8}, {1, 2, 5, 7}, {6, 8, 3, 4}};

    private static int rowsLacking(int n) {
        int many = 0;
        for (int[] card : TURNS) {
            int one = (card[0] > n ? 1 : 0) + (card[1] > n ? 1 : 0);
            int other = (card[2] > n ? 1 : 0) + (card[3] > n ? 1 : 0);
            many += Math.min(one, other) == 1 ? 1 : 0;
        }
        return many;
    }

    private static int housesLacking(int n) {
        int many = 0;
        for (int[] card : TURNS) {
            int lack = 0;
            for (int turn : card) {
                lack += turn > n ? 1 : 0;
            }
            many += lack == 1 ? 1 : 0;
        }
        return many;
    }

    private static void sweatNone() {
        says(39, "-2: there are none such, no HALL.");
        BingoHall x = Check.hall(SOLD_EIGHT);
        within("sweat(kind, 6)", -2, 0, rowsLacking(6), 2, 8, kind -> x.sweat(kind, 6));
        within("sweat(2, n)", -2, 0, 0, 8, 0, n -> x.sweat(2, n));
        due("no HALL", new BingoHall().sweat(0, 0), -2);
        BingoHall none = Check.hall(EIGHT);
        within("sweat(0, n), none is SOLD", -2, 0, 0, 8, 0, n -> none.sweat(0, n));
    }

    private static void nearest() {
        says(40, "The fewest that one of these lacks; NONE: none is SOLD, it never can.");
        BingoHall x = Check.hall(SOLD_EIGHT);
        int[] rows = {2, 1, 0, 0, 0, 0, 0, 0, 0};
        int[] houses = {4, 3, 2, 2, 1, 1, 1, 0, 0};
        for (int n = 0; n <= 8; n++) {
            due("nearest(0, " + n + ")", x.nearest(0, n), rows[n]);
            due("nearest(2, " + n + ")", x.nearest(2, n), houses[n]);
        }
        BingoHall none = Check.hall(EIGHT);
        due("none is SOLD", none.nearest(0, 0), -1);
        none.sell(0);
        due("one is SOLD", none.nearest(0, 0), 2);
        BingoHall one = Check.hall(TWO + "sold 0;");
        due("it never can", one.nearest(1, 2), -1);
        due("it can", one.nearest(0, 2), 0);
    }

    private static void nearestNone() {
        says(40, "-2 likewise.");
        BingoHall x = Check.hall(SOLD_EIGHT);
        within("nearest(kind, 1)", -2, 0, 1, 2, 3, kind -> x.nearest(kind, 1));
        within("nearest(0, n)", -2, 0, 2, 8, 0, n -> x.nearest(0, n));
        due("no HALL", new BingoHall().nearest(0, 0), -2);
        due("n ahead of none SOLD", Check.hall(EIGHT).nearest(0, 9), -2);
        due("KIND ahead of none SOLD", Check.hall(EIGHT).nearest(3, 0), -2);
    }

    private static void slowCounts() {
        says(41, "one has n (1 .. 8) of those SOLD, by their places from first on, and daubs m (1 .. 8) NUMBERS in the time of a CALL");
        BingoHall x = Check.hall(ALL_SOLD);
        int house = x.first(2);
        int one = x.done(0, 0, 2);
        one = Math.min(one, Math.min(x.done(0, 1, 2), x.done(0, 2, 2)));
        within("slow(0, n, 8, 2)", -2, 1, one, 8, house, n -> x.slow(0, n, 8, 2));
        within("slow(0, 1, m, 2)", -2, 1, one, 8, one, m -> x.slow(0, 1, m, 2));
        BingoHall y = Check.hall(SOLD_EIGHT);
        // First houses are behind 7 CALLS, on all four: 6 times 4 daubs are ahead of the first.
        int[] times = {25, 13, 9, 7, 7, 7, 7, 7};
        for (int m = 1; m <= 8; m++) {
            due("slow(0, 4, " + m + ", 2)", y.slow(0, 4, m, 2), times[m - 1]);
        }
    }

    private static void slowTimes() {
        says(41, "CALL by CALL as they come, of one CALL by their places, none ahead of its CALL:"
            + " behind how many CALLS (times of a CALL, on behind the last one) some CARD of any of his STRIPS first has a KIND, all daubed.");
        BingoHall x = Check.hall(SOLD_EIGHT);
        // First rows are behind 5, 2, 5, 2; first houses behind 7.
        int[][] due = {
            {0, 1, 1, 0, 5}, {0, 1, 8, 0, 5}, {1, 1, 1, 0, 2}, {1, 1, 8, 0, 2}, {0, 2, 2, 0, 2}, {0, 2, 1, 0, 4}, {1, 2, 1, 0, 3},
            {0, 4, 4, 0, 2}, {0, 4, 5, 0, 2}, {0, 4, 3, 0, 2}, {0, 4, 2, 0, 3}, {0, 4, 1, 0, 6}, {0, 3, 1, 0, 5}, {0, 3, 2, 0, 3},
            {0, 4, 1, 2, 25}, {0, 4, 3, 2, 9}, {2, 2, 1, 2, 13}, {3, 1, 1, 2, 7}, {0, 4, 8, 2, 7}};
        for (int[] it : due) {
            due("slow(" + it[0] + ", " + it[1] + ", " + it[2] + ", " + it[3] + ")", x.slow(it[0], it[1], it[2], it[3]), it[4]);
        }
    }

    private static void slowPlaces() {
        says(41, "NONE: it never can; -2: there are none such, no HALL.");
        BingoHall x = Check.hall(SOLD_EIGHT);
        within("slow(first, 1, 1, 0)", -2, 0, 5, 3, 2, first -> x.slow(first, 1, 1, 0));
        within("slow(first, 3, 8, 0)", -2, 0, 2, 1, 2, first -> x.slow(first, 3, 8, 0));
        within("slow(0, n, 8, 0)", -2, 1, 5, 4, 2, n -> x.slow(0, n, 8, 0));
        within("slow(0, 1, m, 0)", -2, 1, 5, 8, 5, m -> x.slow(0, 1, m, 0));
        within("slow(0, 1, 1, kind)", -2, 0, 5, 2, 7, kind -> x.slow(0, 1, 1, kind));
        due("slow(MAX, 8, 1, 0)", x.slow(MAX, 8, 1, 0), -2);
        due("slow(MIN, 8, 1, 0)", x.slow(MIN, 8, 1, 0), -2);
        due("no HALL", new BingoHall().slow(0, 1, 1, 0), -2);
        due("none is SOLD", Check.hall(EIGHT).slow(0, 1, 1, 0), -2);
    }

    private static void slowNone() {
        says(41, "NONE: it never can");
        BingoHall x = Check.hall(TWO + "sold 0;");
        due("two of one row", x.slow(0, 1, 1, 1), -1);
        due("row of one row", x.slow(0, 1, 1, 0), 2);
        BingoHall four = Check.hall("hall cards 2 rows 1 each 2 columns 2 2;");
        int sold = 0;
        for (int serial = 0; serial < 100 && sold < 4; serial++) {
            sold = Math.max(sold, four.sell(serial));
        }
        for (int n = 1; n <= 4; n++) {
            for (int m = 1; m <= 4; m++) {
                due("two of one row, " + n + " STRIPS, " + m + " daubs", four.slow(0, n, m, 1), -1);
            }
        }
        due("none such ahead of never", x.slow(0, 2, 1, 1), -2);
        due("none such ahead of never", x.slow(1, 1, 1, 1), -2);
    }

    private static void race() {
        says(42, "the place among those SOLD of the i-th by when a CARD of its has a KIND first (of one time the lesser place first).");
        BingoHall x = Check.hall(SOLD_EIGHT);
        // First rows are behind 5, 2, 5, 2; first houses behind 7.
        int[][] due = {{1, 3, 0, 2}, {0, 1, 2, 3}, {0, 1, 2, 3}};
        for (int kind = 0; kind < 3; kind++) {
            for (int i = 0; i < 4; i++) {
                due("race(" + kind + ", " + i + ")", x.race(kind, i), due[kind][i]);
            }
        }
    }

    private static void raceNone() {
        says(42, "NONE: there are not so many, it never can; -2: there is no such KIND, no HALL.");
        BingoHall x = Check.hall(SOLD_EIGHT);
        within("race(0, i)", -1, 0, 1, 3, 2, i -> x.race(0, i));
        within("race(kind, 0)", -2, 0, 1, 2, 0, kind -> x.race(kind, 0));
        BingoHall one = Check.hall(TWO + "sold 0;");
        due("it never can", one.race(1, 0), -1);
        due("it can", one.race(0, 0), 0);
        BingoHall none = Check.hall(EIGHT);
        due("none is SOLD", none.race(0, 0), -1);
        due("KIND ahead of none SOLD", none.race(3, 0), -2);
        due("no HALL", new BingoHall().race(0, 0), -2);
        BingoHall all = Check.hall(ALL_SOLD);
        int seen = 0;
        for (int i = 0; i < 8; i++) {
            seen |= 1 << all.race(2, i);
        }
        due("each of eight", seen, 255);
        due("a ninth", all.race(2, 8), -1);
    }

    private static void shareBuyers() {
        says(43, "a SLOT's row of what buyers paid (1 .. 8 of them, 1 .. 9,999 each)");
        BingoHall x = Check.hall(RICH_EIGHT);
        int[] due = {-2, 2104, 1052, 702, 526, 424, 354, 304, 263, -2};
        for (int n = 0; n <= 9; n++) {
            x.row(0, 3, n);
            for (int i = 0; i < n; i++) {
                x.write(0, i, 5);
            }
            due("of " + n + " buyers", x.share(0, 0), due[n]);
        }
        long[][] paid = {{0, -2}, {1, 2104}, {9999, 2104}, {10000, -2}, {-1, -2}, {1L + (1L << 32), -2}, {Long.MIN_VALUE, -2},
            {Long.MAX_VALUE, -2}};
        for (long[] it : paid) {
            Check.put(x, 0, it[0]);
            due("who paid " + it[0], x.share(0, 0), it[1]);
            Check.put(x, 0, 1, it[0]);
            due("the second paid " + it[0], x.share(0, 2), it[1] == -2 ? -2 : -1);
        }
        x.row(0, 3, 60);
        due("of sixty", x.share(0, 0), -2);
    }

    private static void shareLeft() {
        says(43, "what buyer i gets of all that those SOLD win, by what he paid of all, cut; the first one what is left over, too.");
        BingoHall x = Check.hall(RICH_EIGHT);
        // 2,104 in all.
        Check.put(x, 0, 1, 2);
        due("a third and one left", x.share(0, 0), 702);
        due("two thirds, cut", x.share(0, 1), 1402);
        Check.put(x, 0, 2, 1);
        due("two thirds and one left", x.share(0, 0), 1403);
        due("a third, cut", x.share(0, 1), 701);
        Check.put(x, 0, 1, 9999, 1, 1, 1, 1, 1, 1);
        int[] due = {2, 2102, 0, 0, 0, 0, 0, 0};
        for (int i = 0; i < 8; i++) {
            due("of eight, " + i, x.share(0, i), due[i]);
        }
        Check.put(x, 0, 1, 1);
        due("half", x.share(0, 0), 1052);
        due("half", x.share(0, 1), 1052);
        BingoHall most = Check.hall(CROSS
            + "sold 0; prize row 9999; prize two 9999; prize house 9999; jackpot 9999 by 2;");
        Check.put(most, 0, 9999, 9999, 9999, 9999, 9999, 9999, 9999, 9998);
        due("all there can be", most.wins(0), 39996);
        due("the last of most", most.share(0, 7), 39996L * 9998 / (8 * 9999 - 1));
        due("the second of most", most.share(0, 1), 39996L * 9999 / (8 * 9999 - 1));
        due("the first of most", most.share(0, 0), 39996 - 6 * (39996L * 9999 / (8 * 9999 - 1)) - 39996L * 9998 / (8 * 9999 - 1));
    }

    private static void shareNone() {
        says(43, "-2: there is no such SLOT, no HALL, not so many, not so much");
        BingoHall x = Check.hall(RICH_EIGHT);
        for (int slot = 0; slot < 4; slot++) {
            Check.put(x, slot, 1, 1);
        }
        within("share(slot, 0)", -2, 0, 1052, 3, 1052, slot -> x.share(slot, 0));
        x.row(1, 3, 9);
        due("not so many", x.share(1, 0), -2);
        Check.put(x, 1, 1, 10000);
        due("not so much", x.share(1, 0), -2);
        BingoHall y = new BingoHall();
        due("no HALL ahead of nothing", y.share(0, 0), -2);
        Check.put(y, 0, 1);
        due("no HALL", y.share(0, 0), -2);
    }

    private static void shareNothing() {
        says(43, "-6: it has nothing");
        BingoHall x = Check.hall(RICH_EIGHT);
        due("nothing", x.share(1, 0), -6);
        due("nothing ahead of no buyer", x.share(1, 8), -6);
        Check.put(x, 1, 7);
        due("a row", x.share(1, 0), 2104);
    }

    private static void shareNoBuyer() {
        says(43, "NONE: there is no such buyer (asked last).");
        BingoHall x = Check.hall(RICH_EIGHT);
        Check.put(x, 0, 1, 2, 3);
        within("share(0, i)", -1, 0, 351, 2, 1052, i -> x.share(0, i));
        x.write(0, 1, 0);
        due("not so much ahead of no buyer", x.share(0, 3), -2);
        x.row(0, 0, 0);
        due("not so many ahead of no buyer", x.share(0, 0), -2);
        due("no SLOT ahead of no buyer", x.share(4, 99), -2);
        BingoHall none = Check.hall(EIGHT);
        Check.put(none, 0, 5);
        due("none is SOLD", none.share(0, 0), 0);
        due("none is SOLD, no buyer", none.share(0, 1), -1);
    }
}
