/** Promises 11 to 18: STRIPS and what is SOLD. */
final class BoundaryStrips extends Boundary {
    static void all() {
        made();
        cell();
        cellNone();
        where();
        same();
        sameNone();
        alike();
        sellNoSerial();
        sellEight();
        sellSame();
        unsell();
        sold();
    }

    private static void made() {
        says(11, "Which PLAN the STRIP of a SERIAL (0 .. 9,999) is by. -2: there are none such, no HALL.");
        BingoHall x = Check.hall(EIGHT);
        within("made", -2, 0, 0, 9999, 1, x::made);
        due("made(2)", x.made(2), 1);
        due("no HALL", new BingoHall().made(0), -2);
        due("no HALL", new BingoHall().made(9999), -2);
        due("of one PLAN", Check.hall(TWO).made(9999), 0);
    }

    private static void cell() {
        says(12, "What is on a STRIP at a CARD, row, COLUMN: a NUMBER, 0: nothing.");
        BingoHall x = Check.hall(EIGHT);
        int[] strip = {0, 4, 7, 2, 6, 0, 1, 0, 8, 3, 5, 0};
        for (int at = 0; at < 12; at++) {
            due("cell(0, ..) " + at, x.cell(0, at / 6, at / 3 % 2, at % 3), strip[at]);
        }
    }

    private static void cellNone() {
        says(12, "-2: there are none such.");
        BingoHall x = Check.hall(EIGHT);
        within("cell(serial, 0, 0, 0)", -2, 0, 0, 9999, 1, serial -> x.cell(serial, 0, 0, 0));
        within("cell(0, card, 1, 0)", -2, 0, 2, 1, 3, card -> x.cell(0, card, 1, 0));
        within("cell(0, 0, row, 1)", -2, 0, 4, 1, 6, row -> x.cell(0, 0, row, 1));
        within("cell(0, 0, 0, column)", -2, 0, 0, 2, 7, column -> x.cell(0, 0, 0, column));
        due("no HALL", new BingoHall().cell(0, 0, 0, 0), -2);
        BingoHall y = Check.hall(LARGEST);
        int[][][] strip = new Model(3, 3, 5, 9, 9, 9, 9, 9).strip(0);
        within("cell(0, card, 2, 4) of 45", -2, 0, strip[0][2][4], 2, strip[2][2][4], card -> y.cell(0, card, 2, 4));
        within("cell(0, 2, row, 4) of 45", -2, 0, strip[2][0][4], 2, strip[2][2][4], row -> y.cell(0, 2, row, 4));
        within("cell(0, 2, 2, column) of 45", -2, 0, strip[2][2][0], 4, strip[2][2][4], column -> y.cell(0, 2, 2, column));
    }

    private static void where() {
        says(13, "Where a NUMBER is on it: 100 times the CARD, 10 times the row, and the COLUMN. -2: there are none such.");
        BingoHall x = Check.hall(EIGHT);
        int[] where = {100, 10, 110, 1, 111, 11, 2, 102};
        for (int number = 1; number <= 8; number++) {
            due("where(0, " + number + ")", x.where(0, number), where[number - 1]);
        }
        within("where(0, number)", -2, 1, 100, 8, 102, number -> x.where(0, number));
        within("where(serial, 4)", -2, 0, 1, 9999, 101, serial -> x.where(serial, 4));
        due("no HALL", new BingoHall().where(0, 1), -2);
        // 1 4 0 / 3 0 8 and 0 5 7 / 2 6 0: a NUMBER at the first place, too.
        int[] second = {0, 110, 10, 1, 101, 111, 102, 12};
        for (int number = 1; number <= 8; number++) {
            due("where(2, " + number + ")", x.where(2, number), second[number - 1]);
        }
        BingoHall y = Check.hall(LARGEST);
        int[][][] strip = new Model(3, 3, 5, 9, 9, 9, 9, 9).strip(7);
        for (int at = 0; at < 45; at++) {
            int place = 100 * (at / 15) + 10 * (at / 5 % 3) + at % 5;
            due("where of 45, " + at, y.where(7, strip[at / 15][at / 5 % 3][at % 5]), place);
        }
        due("where(7, 46)", y.where(7, 46), -2);
    }

    private static void same() {
        says(14, "Whether two STRIPS are the same: 1, 0.");
        BingoHall x = Check.hall(EIGHT);
        due("same(0, 1)", x.same(0, 1), 1);
        due("same(1, 0)", x.same(1, 0), 1);
        due("same(2, 2)", x.same(2, 2), 1);
        due("same(0, 2)", x.same(0, 2), 0);
        due("same(2, 3)", x.same(2, 3), 0);
        due("same(0, 9999)", x.same(0, 9999), 0);
        // Alike but for the rows.
        BingoHall y = Check.hall(CROSS);
        due("same(1, 2) of CROSS", y.same(1, 2), 0);
        due("same(1, 4) of CROSS", y.same(1, 4), 1);
        // Alike but for what stands last: where two STRIPS differ may be at any place.
        BingoHall z = Check.hall("hall cards 3 rows 1 each 2 columns 3 3;");
        for (int serial = 1; serial < 60; serial++) {
            boolean isSame = true;
            for (int at = 0; at < 6; at++) {
                isSame &= rowsOfTwo(serial)[at] == rowsOfTwo(0)[at];
            }
            due("same(0, " + serial + ")", z.same(0, serial), isSame ? 1 : 0);
        }
    }

    /** Three CARDS of one row, two COLUMNS, by DRAWS alone. */
    private static int[] rowsOfTwo(int serial) {
        Draws draws = new Draws(serial);
        for (int i = 0; i < 4; i++) {
            draws.draw(1);
        }
        int[] one = draws.mixed(3);
        int[] other = draws.mixed(3);
        return new int[] {one[0], other[0], one[1], other[1], one[2], other[2]};
    }

    private static void sameNone() {
        says(14, "-2: there are none such, no HALL.");
        BingoHall x = Check.hall(EIGHT);
        within("same(serial, 0)", -2, 0, 1, 9999, 0, serial -> x.same(serial, 0));
        within("same(9999, other)", -2, 0, 0, 9999, 1, other -> x.same(9999, other));
        due("same(10000, 10000)", x.same(10000, 10000), -2);
        due("no HALL", new BingoHall().same(0, 0), -2);
    }

    private static void alike() {
        says(15, "How many NUMBERS are on a CARD of both of two STRIPS, at whatever place. -2: there are none such.");
        BingoHall x = Check.hall(EIGHT);
        due("all", x.alike(0, 0, 1, 0), 4);
        due("none", x.alike(0, 0, 1, 1), 0);
        due("4 alone", x.alike(0, 0, 2, 0), 1);
        due("7 2 6", x.alike(0, 0, 2, 1), 3);
        within("alike(serial, 0, 0, 0)", -2, 0, 4, 9999, 1, serial -> x.alike(serial, 0, 0, 0));
        within("alike(0, card, 0, 0)", -2, 0, 4, 1, 0, card -> x.alike(0, card, 0, 0));
        within("alike(0, 0, other, 0)", -2, 0, 4, 9999, 1, other -> x.alike(0, 0, other, 0));
        within("alike(0, 0, 0, second)", -2, 0, 4, 1, 0, second -> x.alike(0, 0, 0, second));
        due("no HALL", new BingoHall().alike(0, 0, 0, 0), -2);
        BingoHall y = Check.hall(LARGEST);
        int together = 0;
        for (int card = 0; card < 3; card++) {
            together += y.alike(5, 2, 6, card);
        }
        due("all CARDS together", together, 15);
        due("the last NUMBER too", y.alike(5, y.where(5, 45) / 100, 5, y.where(5, 45) / 100), 15);
    }

    private static void sellNoSerial() {
        says(16, "The STRIP of a SERIAL is SOLD, too: how many are then. -2: there is no such SERIAL, no HALL");
        BingoHall x = Check.hall(EIGHT);
        due("sell(0)", x.sell(0), 1);
        due("sell(9999)", x.sell(9999), 2);
        due("sell(-1)", x.sell(-1), -2);
        due("sell(10000)", x.sell(10000), -2);
        due("sell(MIN)", x.sell(MIN), -2);
        due("sell(MAX)", x.sell(MAX), -2);
        due("no HALL", new BingoHall().sell(0), -2);
        due("count(4)", x.count(4), 2);
        due("no SERIAL ahead of eight", Check.hall(ALL_SOLD).sell(10000), -2);
        due("no SERIAL ahead of eight", Check.hall(ALL_SOLD).sell(-1), -2);
    }

    private static void sellEight() {
        says(16, "-3: eight are SOLD");
        BingoHall x = Check.hall(LARGEST);
        for (int i = 0; i < 8; i++) {
            due("sell " + i, x.sell(100 + i), i + 1);
        }
        due("a ninth", x.sell(108), -3);
        due("a ninth, the same", x.sell(100), -3);
        due("count(4)", x.count(4), 8);
        due("sold(7)", x.sold(7), 107);
        x.unsell();
        due("the eighth again", x.sell(108), 8);
        due("a ninth again", x.sell(107), -3);
        due("of a text", Check.hall(ALL_SOLD).sell(8), -3);
    }

    private static void sellSame() {
        says(16, "-5: the same STRIP is SOLD already.");
        BingoHall x = Check.hall(CROSS);
        due("sell(4)", x.sell(4), 1);
        due("itself", x.sell(4), -5);
        due("the same of another SERIAL", x.sell(0), -5);
        due("the other", x.sell(2), 2);
        due("the same as the last", x.sell(3), -5);
        due("the same as the first", x.sell(5), -5);
        due("count(4)", x.count(4), 2);
        x.unsell();
        due("taken back", x.sell(3), 2);
        due("sold(1)", x.sold(1), 3);
        BingoHall y = Check.hall(LARGEST + "sold 0; sold 1; sold 2; sold 3; sold 4; sold 5; sold 6;");
        due("the seventh again", y.sell(6), -5);
        due("the first again", y.sell(0), -5);
        due("another", y.sell(7), 8);
    }

    private static void unsell() {
        says(17, "The last one that was SOLD is taken back: 1; 0: none is. -2: there is no HALL.");
        BingoHall x = Check.hall(EIGHT);
        due("none is", x.unsell(), 0);
        x.sell(0);
        x.sell(2);
        due("the last", x.unsell(), 1);
        due("sold(0)", x.sold(0), 0);
        due("sold(1)", x.sold(1), -1);
        due("the first", x.unsell(), 1);
        due("count(4)", x.count(4), 0);
        due("none is", x.unsell(), 0);
        due("count(4)", x.count(4), 0);
        due("sell(2)", x.sell(2), 1);
        due("no HALL", new BingoHall().unsell(), -2);
        x.hall();
        due("no HALL any more", x.unsell(), -2);
    }

    private static void sold() {
        says(18, "SERIAL i of those SOLD. NONE: there is none such.");
        BingoHall x = Check.hall(EIGHT + "sold 7; sold 9999;");
        within("sold", -1, 0, 7, 1, 9999, x::sold);
        x.sell(0);
        within("sold", -1, 0, 7, 2, 0, x::sold);
        BingoHall y = Check.hall(ALL_SOLD);
        within("sold of eight", -1, 0, 0, 7, 7, y::sold);
        due("none is SOLD", Check.hall(EIGHT).sold(0), -1);
        due("no HALL", new BingoHall().sold(0), -1);
    }
}
