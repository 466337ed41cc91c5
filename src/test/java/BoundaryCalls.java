/** Promises 19 to 27: CALLS, and what they do on a CARD. */
final class BoundaryCalls extends Boundary {
    /** Who asks of a SERIAL and a CARD. */
    interface AskedOfCard {
        long of(int serial, int card);
    }

    static void all() {
        caller();
        callsEachOnce();
        callsNothing();
        call();
        called();
        daubs();
        full();
        lacksFewest();
        lacksKinds();
        lacksNever();
        lacksNone();
        doneNever();
        doneNone();
        claim();
        claimTimes();
        claimNone();
    }

    /** A SERIAL is 0 .. 9,999, a CARD of EIGHT 0 .. 1; there is none without a HALL. */
    static void cardBounds(String call, AskedOfCard x, long first, long second, long last, long lastSecond) {
        within(call + " serial", -2, 0, first, 9999, last, serial -> x.of(serial, 0));
        within(call + " serial, CARD 1", -2, 0, second, 9999, lastSecond, serial -> x.of(serial, 1));
        within(call + " card", -2, 0, first, 1, second, card -> x.of(0, card));
    }

    private static void caller() {
        says(19, "The CALLER's seed is this (0 .. 2,000,000,000) from now on: CALLS by it. 0; -2: there is none such, no HALL.");
        BingoHall x = Check.hall(EIGHT + "sold 0;");
        due("caller(2000000000)", x.caller(2000000000), 0);
        calls("of 2000000000", x, 2, 7, 1, 3, 4, 5, 8, 6);
        due("caller(2000000001)", x.caller(2000000001), -2);
        due("caller(MAX)", x.caller(MAX), -2);
        due("caller(-1)", x.caller(-1), -2);
        due("caller(MIN)", x.caller(MIN), -2);
        calls("stay", x, 2, 7, 1, 3, 4, 5, 8, 6);
        due("daubs(0, 0, 2) stays", x.daubs(0, 0, 2), 2);
        due("caller(0)", x.caller(0), 0);
        calls("of 0", x, 7, 1, 8, 3, 6, 2, 4, 5);
        due("called(7)", x.called(7), 1);
        due("caller(99999)", x.caller(99999), 0);
        calls("of 99999", x, 1, 5, 7, 8, 4, 2, 3, 6);
        due("caller(100000)", x.caller(100000), 0);
        calls("of 100000", x, new Draws(100000).mixed(8));
        due("no HALL", new BingoHall().caller(0), -2);
    }

    private static void callsEachOnce() {
        says(20, "A SLOT's row is the CALLS from now on: 0. -2: there is no such SLOT, no HALL, it is not each NUMBER once (asked last)");
        BingoHall x = Check.hall(EIGHT);
        long[] rising = {1, 2, 3, 4, 5, 6, 7, 8};
        for (int slot = 0; slot < 4; slot += 3) {
            Check.put(x, slot, rising);
        }
        within("calls(slot)", -2, 0, 0, 3, 0, x::calls);
        calls("rising", x, 1, 2, 3, 4, 5, 6, 7, 8);
        Check.put(x, 0, 8, 7, 6, 5, 4, 3, 2, 1);
        long[] wrong = {7, 1, 0, 9, -8, 8 + 64, 8 - 64, 8 + (1L << 32), Long.MAX_VALUE, Long.MIN_VALUE};
        for (long it : wrong) {
            x.write(0, 0, it);
            due("calls of " + it + " 7 6 ..", x.calls(0), -2);
        }
        x.write(0, 0, 8);
        x.write(0, 7, 2);
        due("calls of .. 3 2 2", x.calls(0), -2);
        Check.put(x, 0, 1, 2, 3, 4, 5, 6, 7);
        due("calls of seven", x.calls(0), -2);
        Check.put(x, 0, 1, 2, 3, 4, 5, 6, 7, 8, 1);
        due("calls of nine", x.calls(0), -2);
        Check.put(x, 0, 1, 2, 3, 4, 5, 6, 7, 8, 9);
        due("calls of nine", x.calls(0), -2);
        x.row(0, 0, 0);
        due("calls of none", x.calls(0), -2);
        calls("stay", x, 1, 2, 3, 4, 5, 6, 7, 8);
        Check.putCut(x, 0, 0, 8, 7, 6, 5, 4, 3, 2, 257);
        due("calls of bytes", x.calls(0), 0);
        calls("of bytes", x, 8, 7, 6, 5, 4, 3, 2, 1);
        BingoHall y = new BingoHall();
        due("no HALL ahead of nothing", y.calls(0), -2);
        y.row(0, 0, 0);
        due("no HALL", y.calls(0), -2);
    }

    private static void callsNothing() {
        says(20, "-6: it has nothing.");
        BingoHall x = Check.hall(TWO);
        due("nothing", x.calls(2), -6);
        Check.put(x, 2, 1, 2);
        due("a row", x.calls(2), 0);
        due("another SLOT still", x.calls(1), -6);
        calls("of two", x, 1, 2);
    }

    private static void call() {
        says(21, "CALL i (from 0). NONE: there is none such.");
        BingoHall x = Check.hall(EIGHT);
        within("call", -1, 0, 4, 7, 7, x::call);
        calls("of seed 1", x, 4, 1, 6, 3, 5, 2, 8, 7);
        due("no HALL", new BingoHall().call(0), -1);
        BingoHall y = Check.hall(TWO);
        within("call of two", -1, 0, 2, 1, 1, y::call);
        int[] all = new Draws(1).mixed(45);
        BingoHall z = Check.hall(LARGEST);
        within("call of 45", -1, 0, all[0], 44, all[44], z::call);
        Check.read(z, TWO);
        due("of a HALL that isn't any more", z.call(2), -1);
    }

    private static void called() {
        says(22, "Behind how many CALLS a NUMBER is called. -2: there is none such.");
        BingoHall x = Check.hall(EIGHT);
        int[] turns = {2, 6, 4, 1, 5, 3, 8, 7};
        for (int number = 1; number <= 8; number++) {
            due("called(" + number + ")", x.called(number), turns[number - 1]);
        }
        within("called", -2, 1, 2, 8, 7, x::called);
        due("no HALL", new BingoHall().called(1), -2);
        BingoHall y = Check.hall(LARGEST);
        Check.read(y, TWO);
        within("called of two", -2, 1, 2, 2, 1, y::called);
    }

    private static void daubs() {
        says(23, "How many NUMBERS of a CARD are called by n CALLS (0 .. NUMBERS). -2: there are none such.");
        BingoHall x = Check.hall(EIGHT);
        int[][] daubs = {{0, 1, 1, 2, 2, 2, 3, 3, 4}, {0, 0, 1, 1, 2, 3, 3, 4, 4}};
        for (int n = 0; n <= 8; n++) {
            due("daubs(0, 0, " + n + ")", x.daubs(0, 0, n), daubs[0][n]);
            due("daubs(0, 1, " + n + ")", x.daubs(0, 1, n), daubs[1][n]);
        }
        within("daubs(0, 0, n)", -2, 0, 0, 8, 4, n -> x.daubs(0, 0, n));
        BingoHall y = Check.hall(THREE_ROWS);
        for (int n = 0; n <= 6; n++) {
            due("of all NUMBERS by " + n, y.daubs(0, 0, n), n);
        }
        BingoHall z = Check.hall(LARGEST);
        within("daubs(0, 0, n) of 45", -2, 0, 0, 45, 15, n -> z.daubs(0, 0, n));
        cardBounds("daubs(.., 6)", (serial, card) -> x.daubs(serial, card, 6), 3, 3, 3, 3);
        due("no HALL", new BingoHall().daubs(0, 0, 0), -2);
    }

    private static void full() {
        says(24, "How many of its rows are full then. -2 likewise.");
        BingoHall x = Check.hall(EIGHT);
        int[][] full = {{0, 0, 0, 0, 0, 0, 1, 1, 2}, {0, 0, 0, 0, 0, 1, 1, 2, 2}};
        for (int n = 0; n <= 8; n++) {
            due("full(0, 0, " + n + ")", x.full(0, 0, n), full[0][n]);
            due("full(0, 1, " + n + ")", x.full(0, 1, n), full[1][n]);
        }
        within("full(0, 0, n)", -2, 0, 0, 8, 2, n -> x.full(0, 0, n));
        cardBounds("full(.., 7)", (serial, card) -> x.full(serial, card, 7), 1, 2, 2, 1);
        due("no HALL", new BingoHall().full(0, 0, 0), -2);
    }

    private static void lacksFewest() {
        says(25, "The fewest NUMBERS that it lacks then to a KIND (0 row, 1 two, 2 house).");
        BingoHall x = Check.hall(EIGHT);
        // Rows 4 7 behind 1, 8 and 2 6 behind 6, 3.
        int[][] lacks = {{2, 1, 1, 1, 1, 1, 0, 0, 0}, {4, 3, 3, 2, 2, 2, 1, 1, 0}, {4, 3, 3, 2, 2, 2, 1, 1, 0}};
        for (int kind = 0; kind < 3; kind++) {
            for (int n = 0; n <= 8; n++) {
                due("lacks(0, 0, " + kind + ", " + n + ")", x.lacks(0, 0, kind, n), lacks[kind][n]);
            }
        }
        BingoHall y = Check.hall(THREE_ROWS);
        // 1 4 / 2 5 / 3 6: the row that lacks most is left out by two, whichever it is.
        long[][] orders = {{1, 2, 5, 3, 6, 4}, {2, 3, 6, 1, 4, 5}, {3, 1, 4, 2, 5, 6}};
        int[][] due = {{2, 1, 1, 0, 0, 0, 0}, {4, 3, 2, 1, 1, 0, 0}, {6, 5, 4, 3, 2, 1, 0}};
        for (long[] order : orders) {
            Check.put(y, 0, order);
            y.calls(0);
            for (int n = 0; n <= 6; n++) {
                for (int kind = 0; kind < 3; kind++) {
                    due("of three rows, " + kind + " by " + n, y.lacks(0, 0, kind, n), due[kind][n]);
                }
            }
        }
    }

    private static void lacksKinds() {
        says(25, "(0 row, 1 two, 2 house)");
        BingoHall x = Check.hall(EIGHT);
        within("lacks(0, 0, kind, 6)", -2, 0, 0, 2, 1, kind -> x.lacks(0, 0, kind, 6));
        BingoHall y = Check.hall(TWO);
        within("lacks(0, 0, kind, 1) of one row", -2, 0, 1, 2, 1, kind -> y.lacks(0, 0, kind, 1));
    }

    private static void lacksNever() {
        says(25, "NONE: it never can (two of one row)");
        BingoHall one = Check.hall(TWO);
        due("of one row, by 0", one.lacks(0, 0, 1, 0), -1);
        due("of one row, by all", one.lacks(0, 0, 1, 2), -1);
        due("of one row: row", one.lacks(0, 0, 0, 0), 2);
        due("of one row: house", one.lacks(0, 0, 2, 0), 2);
        BingoHall two = Check.hall(CROSS);
        due("of two rows, by 0", two.lacks(0, 0, 1, 0), 2);
        due("of two rows, by all", two.lacks(0, 0, 1, 2), 0);
        BingoHall cards = Check.hall("hall cards 2 rows 1 each 2 columns 2 2;");
        due("of two CARDS of one row", cards.lacks(0, 1, 1, 4), -1);
    }

    private static void lacksNone() {
        says(25, "-2 likewise.");
        BingoHall x = Check.hall(EIGHT);
        within("lacks(0, 0, 0, n)", -2, 0, 2, 8, 0, n -> x.lacks(0, 0, 0, n));
        cardBounds("lacks(.., 2, 7)", (serial, card) -> x.lacks(serial, card, 2, 7), 1, 0, 0, 1);
        due("no HALL", new BingoHall().lacks(0, 0, 0, 0), -2);
        due("n ahead of never", Check.hall(TWO).lacks(0, 0, 1, 3), -2);
    }

    private static void doneNever() {
        says(26, "Behind how many CALLS it has a KIND first; NONE: never.");
        BingoHall one = Check.hall(TWO);
        int[] oneRow = {2, -1, 2};
        BingoHall two = Check.hall(CROSS);
        int[] twoRows = {1, 2, 2};
        BingoHall three = Check.hall(THREE_ROWS);
        Check.put(three, 0, 3, 6, 1, 2, 4, 5);
        three.calls(0);
        int[] threeRows = {2, 5, 6};
        for (int kind = 0; kind < 3; kind++) {
            due("of one row: " + kind, one.done(0, 0, kind), oneRow[kind]);
            due("of two rows: " + kind, two.done(0, 0, kind), twoRows[kind]);
            due("of three rows: " + kind, three.done(0, 0, kind), threeRows[kind]);
        }
    }

    private static void doneNone() {
        says(26, "-2: there are none such.");
        BingoHall x = Check.hall(EIGHT);
        within("done(0, 0, kind)", -2, 0, 6, 2, 8, kind -> x.done(0, 0, kind));
        cardBounds("done(.., 0)", (serial, card) -> x.done(serial, card, 0), 6, 5, 3, 6);
        due("no HALL", new BingoHall().done(0, 0, 0), -2);
    }

    private static void claim() {
        says(27, "0 good: it has it just then; 1 it has not; 2 it had it ahead.");
        BingoHall x = Check.hall(EIGHT);
        int[][] turns = {{6, 8, 8}, {5, 7, 7}};
        for (int card = 0; card < 2; card++) {
            for (int kind = 0; kind < 3; kind++) {
                int turn = turns[card][kind];
                for (int n = 1; n <= 8; n++) {
                    int due = n < turn ? 1 : n == turn ? 0 : 2;
                    due("claim(0, " + card + ", " + kind + ", " + n + ")", x.claim(0, card, kind, n), due);
                }
            }
        }
        BingoHall one = Check.hall(TWO);
        due("two of one row, at the last", one.claim(0, 0, 1, 2), 1);
        due("row of one row, at the first", one.claim(0, 0, 0, 1), 1);
        due("row of one row, at the last", one.claim(0, 0, 0, 2), 0);
        BingoHall two = Check.hall(CROSS);
        due("row of two rows, at the first", two.claim(0, 0, 0, 1), 0);
        due("row of two rows, at the last", two.claim(0, 0, 0, 2), 2);
    }

    private static void claimTimes() {
        says(27, "A CLAIM of a KIND at CALL n (1 .. NUMBERS: behind n CALLS)");
        BingoHall x = Check.hall(EIGHT);
        within("claim(0, 0, 1, n)", -2, 1, 1, 8, 0, n -> x.claim(0, 0, 1, n));
        BingoHall y = Check.hall(TWO);
        within("claim(0, 0, 1, n) of one row", -2, 1, 1, 2, 1, n -> y.claim(0, 0, 1, n));
    }

    private static void claimNone() {
        says(27, "-2: there are none such.");
        BingoHall x = Check.hall(EIGHT);
        within("claim(0, 0, kind, 7)", -2, 0, 2, 2, 1, kind -> x.claim(0, 0, kind, 7));
        cardBounds("claim(.., 0, 5)", (serial, card) -> x.claim(serial, card, 0, 5), 1, 0, 2, 1);
        due("no HALL", new BingoHall().claim(0, 0, 0, 1), -2);
    }
}
