import java.util.Arrays;

/** The Terms, I to VI, and how many calls an object is used for. */
final class BoundaryTerms extends Boundary {
    static void all() {
        calls512();
        lines();
        hallIsFirst();
        formNumbers();
        columns();
        columnsTogether();
        prizes();
        jackpots();
        soldSerials();
        callers();
        blanks();
        wordsAndNumbers();
        firstByPlace();
        leastOfAPlace();
        misplaced();
        outOfBounds();
        columnsSign();
        tooMany();
        slots();
        numbers();
        cells();
        plans();
        planOrder();
        layoutOrder();
        layoutCounts();
        stripDraws();
        mixedColumns();
        dealt();
        calls();
        kinds();
        chances();
        lowestTerms();
        partedPrizes();
        jackpotCalls();
        draws();
    }

    private static void calls512() {
        says(0, "An object is used for at most 512 calls after it has been made; what later calls answer is free.");
        BingoHall x = new BingoHall();
        int calls = 0;
        for (int i = 0; i < EIGHT.length(); i += 20, calls++) {
            int[] words = new int[5];
            for (int at = i; at < i + 20; at++) {
                words[(at - i) / 4] = words[(at - i) / 4] << 8 | (at < EIGHT.length() ? EIGHT.charAt(at) : ' ');
            }
            x.feed(words[0], words[1], words[2], words[3], words[4]);
        }
        due("hall()", x.hall(), 1);
        for (calls++; calls < 510; calls++) {
            due("call " + (calls + 1), x.call(calls % 8), new int[] {4, 1, 6, 3, 5, 2, 8, 7}[calls % 8]);
        }
        due("call 511, sell(0)", x.sell(0), 1);
        due("call 512, sell(2)", x.sell(2), 2);
        // The 513th is free, but doesn't throw.
        x.sell(3);
    }

    // I.

    private static void lines() {
        says(0, "I. HALL: {LINE ;}. LINE: hall cards N rows N each N columns N {N} | prize KIND N | jackpot N by N | sold N | caller N.");
        String[] lines = {"hall cards 1 rows 1 each 2 columns 1 1 ;", "prize row 5 ;", "prize two 5 ;", "prize house 5 ;",
            "jackpot 5 by 2 ;", "sold 5 ;", "caller 5 ;"};
        StringBuilder ahead = new StringBuilder();
        for (int i = 0; i < lines.length; i++) {
            String[] tokens = lines[i].split(" ");
            for (int many = 1; many < tokens.length; many++) {
                // A LINE that ends too soon, one with a TOKEN too few, one with a word too many.
                String part = ahead + String.join(" ", Arrays.copyOf(tokens, many));
                bad(1, part, "");
                bad(1, part + " ", "? " + String.join(" ", Arrays.copyOfRange(tokens, many, tokens.length)));
                bad(1, part + " ", "full " + String.join(" ", Arrays.copyOfRange(tokens, many, tokens.length)));
            }
            ahead.append(lines[i]);
            good(ahead.toString(), i + 1);
        }
        bad(1, "hall cards 1 rows 1 each 2 columns ", ";");
        bad(1, "hall cards 1 rows 1 ", "columns 1 1;");
        bad(1, "hall cards 1 each 2 rows 1 columns 1 1;".substring(0, 13), "each 2 rows 1 columns 1 1;");
        bad(1, TWO + "jackpot 5 ", ";");
        bad(1, TWO + "sold ", ";");
        bad(1, TWO, ";");
    }

    private static void hallIsFirst() {
        says(0, "hall is the first LINE and no other");
        good("", 0);
        good(TWO, 1);
        good(TWO + "caller 5; sold 1;", 3);
        bad(1, "", "caller 5;" + TWO);
        bad(1, "", "prize row 1;" + TWO);
        bad(1, TWO, TWO);
        bad(1, TWO + "caller 5;", TWO);
        bad(1, "", ";" + TWO);
    }

    private static void formNumbers() {
        says(0, "cards, rows 1 .. 3, each 1 .. 5");
        bad(2, "hall cards ", "0 rows 1 each 2 columns 1 1;");
        good("hall cards 1 rows 1 each 2 columns 1 1;", 1);
        good("hall cards 3 rows 1 each 2 columns 3 3;", 1);
        bad(2, "hall cards ", "4 rows 1 each 2 columns 4 4;");
        bad(2, "hall cards 1 rows ", "0 each 2 columns 1 1;");
        good("hall cards 1 rows 3 each 2 columns 3 3;", 1);
        bad(2, "hall cards 1 rows ", "4 each 2 columns 4 4;");
        bad(2, "hall cards 1 rows 2 each ", "0 columns 1 1;");
        good("hall cards 1 rows 2 each 1 columns 1 1;", 1);
        good("hall cards 1 rows 1 each 5 columns 1 1 1 1 1;", 1);
        bad(2, "hall cards 1 rows 1 each ", "6 columns 1 1 1 1 2;");
        // Digits that come to a good number again, if a number wraps around.
        bad(2, "hall cards ", "4294967297 rows 1 each 2 columns 1 1;");
        bad(2, "hall cards ", "18446744073709551617 rows 1 each 2 columns 1 1;");
        bad(2, "hall cards 1 rows ", "4294967297 each 2 columns 1 1;");
        good("hall cards 0000000000000000000000001 rows 1 each 2 columns 1 1;", 1);
    }

    private static void columns() {
        says(0, "COLUMNS: 2 .. 5 numbers of 1 .. 15 (how many NUMBERS a COLUMN has)");
        // Nine in one COLUMN would have a PLAN.
        bad(2, "hall cards 3 rows 3 each 1 columns 9", ";");
        good("hall cards 3 rows 3 each 1 columns 4 5;", 1);
        good("hall cards 3 rows 3 each 3 columns 6 6 6 6 3;", 1);
        bad(3, "hall cards 3 rows 3 each 3 columns 6 6 6 3 3 ", "3;");
        bad(1, "hall cards 3 rows 3 each 1 columns ", ";");
        bad(2, "hall cards 1 rows 1 each 1 columns ", "0 1;");
        bad(2, "hall cards 1 rows 1 each 1 columns 1 ", "0;");
        good("hall cards 3 rows 3 each 2 columns 9 3 3 3;", 1);
        // Fifteen can stand there, though no PLAN has so many; sixteen can't.
        bad(2, "hall cards 3 rows 3 each 2 columns 15 3", ";");
        bad(2, "hall cards 3 rows 3 each 2 columns 3 15", ";");
        bad(2, "hall cards 3 rows 3 each 2 columns ", "16 2;");
        bad(2, "hall cards 3 rows 3 each 2 columns 2 ", "16;");
        bad(2, "hall cards 3 rows 3 each 5 columns 9 9 9 9 15", ";");
        bad(2, "hall cards 3 rows 3 each 5 columns 9 9 9 9 ", "16;");
        bad(2, "hall cards 1 rows 1 each 2 columns 1 ", "4294967297;");
        BingoHall x = Check.hall("hall cards 3 rows 3 each 2 columns 9 3 3 3;");
        due("column(0, 1)", x.column(0, 1), 9);
        due("column(3, 1)", x.column(3, 1), 3);
    }

    private static void columnsTogether() {
        says(0, "as many as each at least, together cards times rows times each; and there is a PLAN");
        good("hall cards 1 rows 1 each 3 columns 1 1 1;", 1);
        good("hall cards 2 rows 2 each 2 columns 4 2 2;", 1);
        bad(2, "hall cards 1 rows 1 each 3 columns 2 1", ";");
        bad(2, "hall cards 1 rows 1 each 5 columns 2 1 1 1", ";");
        good(LARGEST, 1);
        bad(2, "hall cards 3 rows 3 each 5 columns 9 9 9 9 8", ";");
        bad(2, "hall cards 3 rows 3 each 5 columns 9 9 9 9 10", ";");
        good("hall cards 1 rows 3 each 1 columns 2 1;", 1);
        bad(2, "hall cards 1 rows 3 each 1 columns 1 1", ";");
        bad(2, "hall cards 1 rows 3 each 1 columns 2 2", ";");
        // As many as they should be together; a CARD has at most rows, and at least one, of each.
        good("hall cards 1 rows 2 each 2 columns 2 2;", 1);
        bad(2, "hall cards 1 rows 2 each 2 columns 3 1", ";");
        good("hall cards 3 rows 2 each 2 columns 6 3 3;", 1);
        bad(2, "hall cards 3 rows 2 each 2 columns 7 3 2", ";");
        bad(2, "hall cards 3 rows 2 each 2 columns 6 4 2", ";");
        good("hall cards 2 rows 2 each 1 columns 2 2;", 1);
        bad(2, "hall cards 2 rows 1 each 1 columns 1 1", ";");
        bad(2, "hall cards 2 rows 2 each 1 columns 3 1", ";");
    }

    private static void prizes() {
        says(0, "KIND: row | two | house; its N 0 .. 9,999 (a later one strikes; 0 without).");
        String[] kinds = {"row", "two", "house"};
        for (int kind = 0; kind < 3; kind++) {
            String ahead = TWO + "prize " + kinds[kind] + " ";
            due(kinds[kind] + " 0", Check.hall(ahead + "0;").prize(kind, 1), 0);
            due(kinds[kind] + " 9999", Check.hall(ahead + "9999;").prize(kind, 1), 9999);
            bad(2, ahead, "10000;");
            bad(2, ahead, "4294967296;");
            bad(1, ahead, "-1;");
            due(kinds[kind] + ", later 8", Check.hall(ahead + "7;" + ahead.substring(TWO.length()) + "8;").prize(kind, 1), 8);
            due(kinds[kind] + ", later 0", Check.hall(ahead + "7;" + ahead.substring(TWO.length()) + "0;").prize(kind, 1), 0);
            for (int other = 0; other < 3; other++) {
                due(other + " with " + kinds[kind], Check.hall(ahead + "7;").prize(other, 1), other == kind ? 7 : 0);
            }
        }
        bad(1, TWO + "prize ", "full 7;");
        bad(1, TWO + "prize ", "7;");
        due("without", Check.hall(TWO).prize(2, 1), 0);
        BingoHall again = Check.hall(TWO + "prize row 7; prize two 8; prize house 9;");
        for (int i = 0; i < 3; i++) {
            Check.read(again, TWO);
            for (int kind = 0; kind < 3; kind++) {
                due("without, behind one with", again.prize(kind, 1), 0);
            }
        }
    }

    private static void jackpots() {
        says(0, "jackpot 0 .. 9,999 by 1 .. NUMBERS (a later one strikes; none without).");
        int[][] told = {{0, 1}, {9999, 8}, {5000, 7}};
        for (int[] it : told) {
            BingoHall x = Check.hall(EIGHT + "jackpot " + it[0] + " by " + it[1] + ";");
            due("count(7)", x.count(7), it[0]);
            due("count(8)", x.count(8), it[1]);
        }
        bad(2, EIGHT + "jackpot ", "10000 by 8;");
        bad(2, EIGHT + "jackpot ", "4294967296 by 8;");
        bad(2, EIGHT + "jackpot 5 by ", "0;");
        bad(2, EIGHT + "jackpot 5 by ", "9;");
        bad(2, TWO + "jackpot 5 by ", "3;");
        good(TWO + "jackpot 5 by 2;", 2);
        BingoHall later = Check.hall(TWO + "sold 0; jackpot 5 by 1; jackpot 7 by 2;");
        due("later: jackpot(0)", later.jackpot(0), 7);
        due("later: jackpot(1)", later.jackpot(1), 0);
        BingoHall lost = Check.hall(TWO + "sold 0; jackpot 7 by 2; jackpot 5 by 1;");
        due("later: jackpot(0)", lost.jackpot(0), 0);
        due("later: jackpot(1)", lost.jackpot(1), 1);
        BingoHall none = Check.hall(TWO + "sold 0;");
        due("without: jackpot(0)", none.jackpot(0), 0);
        due("without: jackpot(1)", none.jackpot(1), -1);
        due("without: count(8)", none.count(8), 0);
        for (int i = 0; i < 3; i++) {
            Check.read(lost, TWO + "sold 0;");
            due("without, behind one with: jackpot(1)", lost.jackpot(1), -1);
            due("without, behind one with: count(7)", lost.count(7), 0);
        }
        due("of 0: jackpot(1)", Check.hall(TWO + "sold 0; jackpot 0 by 1;").jackpot(1), 1);
    }

    private static void soldSerials() {
        says(0, "sold: a SERIAL 0 .. 9,999, not of a STRIP that is SOLD already.");
        due("sold 0", Check.hall(TWO + "sold 0;").sold(0), 0);
        due("sold 9999", Check.hall(TWO + "sold 9999;").sold(0), 9999);
        bad(2, TWO + "sold ", "10000;");
        bad(2, TWO + "sold ", "4294967296;");
        good(CROSS + "sold 4; sold 2;", 3);
        bad(2, CROSS + "sold 4; sold ", "4;");
        bad(2, CROSS + "sold 4; sold ", "5;");
        bad(2, CROSS + "sold 4; sold 2; sold ", "3;");
        bad(2, CROSS + "sold 4; sold 2; sold ", "0;");
    }

    private static void callers() {
        says(0, "caller: a seed 0 .. 99,999 (a later one strikes; 1 without).");
        calls("caller 0", Check.hall(EIGHT + "caller 0;"), 7, 1, 8, 3, 6, 2, 4, 5);
        calls("caller 99999", Check.hall(EIGHT + "caller 99999;"), 1, 5, 7, 8, 4, 2, 3, 6);
        bad(2, EIGHT + "caller ", "100000;");
        bad(2, EIGHT + "caller ", "4294967296;");
        bad(2, EIGHT + "caller ", "999999999999999999999999;");
        calls("without", Check.hall(EIGHT), 4, 1, 6, 3, 5, 2, 8, 7);
        BingoHall again = Check.hall(EIGHT + "caller 2;");
        for (int i = 0; i < 3; i++) {
            Check.read(again, EIGHT);
            calls("without, behind one with", again, 4, 1, 6, 3, 5, 2, 8, 7);
        }
        calls("a later one", Check.hall(EIGHT + "caller 0; caller 2;"), 1, 6, 3, 7, 4, 8, 5, 2);
        calls("a later one", Check.hall(EIGHT + "caller 2; sold 0; caller 0;"), 7, 1, 8, 3, 6, 2, 4, 5);
    }

    private static void blanks() {
        says(0, "TOKENS, blanks (32, 10) aside, the longest: words (a .. z), numbers (digits), the sign ; .");
        // A byte behind the word hall: a blank, a letter of a longer word, or a TOKEN of its own.
        for (int sign = 0; sign < 256; sign++) {
            String text = "hall" + (char) sign;
            String rest = "cards 1 rows 1 each 2 columns 1 1;";
            if (sign == 32 || sign == 10) {
                good(text + rest, 1);
            } else if (sign >= 'a' && sign <= 'z') {
                bad(1, "", text + " " + rest);
            } else {
                bad(1, "hall", (char) sign + " " + rest);
            }
        }
    }

    private static void wordsAndNumbers() {
        says(0, "the longest: words (a .. z), numbers (digits), the sign ;");
        // A byte behind a number: a digit of a longer one, the sign, a blank, or a TOKEN that is none there.
        String ahead = "hall cards 1 rows 1 each 2 columns 1 ";
        for (int sign = 0; sign < 256; sign++) {
            if (sign == 32 || sign == 10) {
                good(ahead + "1" + (char) sign + ";", 1);
            } else if (sign >= '0' && sign <= '5') {
                bad(2, ahead + "1" + (char) sign, ";");
            } else if (sign >= '6' && sign <= '9') {
                bad(2, ahead, "1" + (char) sign + ";");
            } else if (sign == ';') {
                good(ahead + "1;", 1);
                bad(1, ahead + "1;", ";");
            } else {
                bad(1, ahead + "1", (char) sign + ";");
            }
        }
        good("hall cards1rows1each2columns1\n1;caller5;", 2);
        bad(1, "", "hallcards 1 rows 1 each 2 columns 1 1;");
        good(TWO + "prize row 1;;".substring(0, 12), 2);
    }

    private static void firstByPlace() {
        says(0, "FAULTS, the first by its place (a TOKEN's first byte; the end's), of one place the least:");
        bad(2, "hall cards ", "9 rows ? columns 1 1 1 1 1 1;");
        bad(1, "hall ", "? cards 9 rows 9");
        bad(3, "hall cards 3 rows 3 each 5 columns 9 9 9 9 9 ", "9 ? 99");
        bad(2, TWO + "caller ", "100000; sold ?");
        bad(1, "hall ", "wards 1");
        bad(1, "hall cards 1 ", "rowsx 1");
        bad(2, "hall cards ", "0011 rows 1");
        // The end's place is how many bytes there are, blanks behind the last TOKEN, too.
        bad(1, "hall", "");
        bad(1, "hall \n ", "");
        bad(1, "hall cards 1 rows 1 each 2 columns 1 1", "");
        bad(1, "hall cards 1 rows 1 each 2 columns 1 1 ", "");
        bad(1, TWO + "sold", "");
        bad(1, TWO + "sold 0", "");
        good(TWO + " \n ", 1);
    }

    private static void leastOfAPlace() {
        says(0, "of one place the least: 1 a TOKEN that is none");
        String five = "hall cards 3 rows 3 each 5 columns 9 9 9 9 9 ";
        bad(3, five, "1;");
        bad(3, five, "15;");
        bad(2, five, "0;");
        bad(2, five, "16;");
        good(five + ";", 1);
    }

    private static void misplaced() {
        says(0, "1 a TOKEN that is none, or can't stand there (hall behind the first LINE, another word ahead of it).");
        bad(1, "hall cards 1 rows 1 each 2 columns 1 1", ",");
        bad(1, "", "HALL cards 1 rows 1 each 2 columns 1 1;");
        bad(1, "", "sold 0;" + TWO);
        bad(1, "", "jackpot 1 by 1;" + TWO);
        bad(1, "", "halls cards 1 rows 1 each 2 columns 1 1;");
        bad(1, "", "hal cards 1 rows 1 each 2 columns 1 1;");
        bad(1, TWO, "hall");
        bad(1, TWO + "caller 1; ", "hall cards 1 rows 1 each 2 columns 1 1;");
        bad(1, TWO + "jackpot 1 ", "1;");
        bad(1, TWO + "jackpot 1 by ", "by;");
        bad(1, TWO + "sold ", "row 1;");
        bad(1, TWO + "sold 0; sold ", ";");
        bad(1, TWO + "sold 0; sold", "");
        bad(1, TWO + "caller 1 ", "1;");
        bad(1, TWO, "7;");
        bad(1, TWO, "cards 1;");
        good(TWO + "caller 1;", 2);
    }

    private static void outOfBounds() {
        says(0, "2 a number out of its bounds, not as said;");
        bad(2, "hall cards ", "4 rows 1 each 2 columns 4 4;");
        bad(2, TWO + "prize row ", "10000;");
        bad(2, TWO + "jackpot 5 by ", "3;");
        bad(2, TWO + "sold 0; sold ", "1;");
        bad(2, TWO + "sold 0; sold ", "1");
        good(TWO + "prize row 9999; jackpot 5 by 2; sold 0;", 4);
    }

    private static void columnsSign() {
        says(0, "COLUMNS that are not as said: the sign ; behind them.");
        bad(2, "hall cards 1 rows 1 each 2 columns 1 2 \n ", ";");
        bad(2, "hall cards 1 rows 1 each 1 columns 1", "; sold 10000;");
        bad(2, "hall cards 1 rows 2 each 2 columns 3 1", ";");
        // Where the sign isn't there, that is the FAULT.
        bad(1, "hall cards 1 rows 1 each 2 columns 1 2", "");
        bad(1, "hall cards 1 rows 1 each 2 columns 1 2 ", "sold 1;");
        good("hall cards 1 rows 1 each 2 columns 1 1 \n ;", 1);
    }

    private static void tooMany() {
        says(0, "3 a 6th COLUMN (at its number), a 9th sold, at its word.");
        good(LARGEST, 1);
        bad(3, LARGEST.substring(0, LARGEST.length() - 1) + " ", "9;");
        bad(3, "hall cards 1 rows 1 each 2 columns 1 1 1 1 1 ", "1 1 1;");
        good(ALL_SOLD, 9);
        bad(3, ALL_SOLD, "sold 8;");
        bad(3, ALL_SOLD + "caller 3;", "sold 8;");
        bad(3, ALL_SOLD, "sold 0;");
        bad(3, ALL_SOLD, "sold");
        good(ALL_SOLD + "caller 3; prize row 1;", 11);
    }

    private static void slots() {
        says(0, "SLOTS 0 .. 3 have rows of numbers of 1, 2, 4 or 8 bytes (WIDTH 0 .. 3), at most 60, or nothing.");
        BingoHall x = new BingoHall();
        for (int slot = 0; slot < 4; slot++) {
            due("write of nothing " + slot, x.write(slot, 0, 1), -6);
        }
        due("slots with a row", x.count(9), 0);
        within("row(slot)", -2, 0, 0, 3, 0, slot -> x.row(slot, 0, 1));
        due("slots with a row", x.count(9), 2);
        within("row(.., width)", -2, 0, 0, 3, 0, width -> x.row(1, width, 1));
        due("row(.., 60)", x.row(1, 3, 60), 0);
        due("write(.., 59)", x.write(1, 59, 1), 0);
        due("write(.., 60)", x.write(1, 60, 1), -7);
        due("row(.., 61)", x.row(1, 3, 61), -2);
    }

    // II.

    private static void numbers() {
        says(0, "NUMBERS 1 .. as many as COLUMNS have, COLUMN 0 first.");
        BingoHall x = Check.hall(EIGHT);
        within("where(0, number)", -2, 1, 100, 8, 102, number -> x.where(0, number));
        int[][] columns = {{1, 3}, {4, 3}, {7, 2}};
        for (int column = 0; column < 3; column++) {
            due("column(" + column + ", 0)", x.column(column, 0), columns[column][0]);
            due("column(" + column + ", 1)", x.column(column, 1), columns[column][1]);
        }
        BingoHall y = Check.hall(LARGEST);
        due("of 45: called(45)", y.called(45) > 0 ? 1 : 0, 1);
        due("of 45: called(46)", y.called(46), -2);
    }

    private static void cells() {
        says(0, "in each row as many NUMBERS as each, one of a COLUMN at most; each NUMBER is once on a STRIP, in its COLUMN;"
            + " those of one COLUMN on a CARD rise from row 0 on.");
        int[][] forms = {{2, 2, 2, 3, 3, 2}, {3, 3, 3, 6, 6, 6, 5, 4}, {1, 2, 1, 1, 1}, {3, 3, 5, 9, 9, 9, 9, 9}, {3, 3, 3, 9, 5, 5, 5, 3}};
        for (int[] it : forms) {
            Model m = new Model(it[0], it[1], it[2], Arrays.copyOfRange(it, 3, it.length));
            for (int serial : new int[] {0, 1, 4711, 9999}) {
                oneStrip(m, serial);
            }
        }
    }

    private static void oneStrip(Model m, int serial) {
        BingoHall x = Check.hall(m.line());
        int[] times = new int[m.numbers + 1];
        for (int card = 0; card < m.cards; card++) {
            int[] above = new int[m.columns];
            for (int row = 0; row < m.rows; row++) {
                int many = 0;
                for (int column = 0; column < m.columns; column++) {
                    int number = x.cell(serial, card, row, column);
                    if (number > 0) {
                        many++;
                        times[number]++;
                        due(m.line() + " rises", number > above[column] ? 1 : 0, 1);
                        int first = x.column(column, 0);
                        due(m.line() + " its COLUMN", number >= first && number < first + m.sizes[column] ? 1 : 0, 1);
                        above[column] = number;
                    }
                }
                due(m.line() + " NUMBERS of a row", many, m.each);
            }
        }
        for (int number = 0; number <= m.numbers; number++) {
            due(m.line() + " times of " + number, times[number], number == 0 ? 0 : 1);
        }
    }

    private static void plans() {
        says(0, "PLAN: for each CARD and COLUMN how many NUMBERS (1 .. rows), rows times each on each CARD, all of each COLUMN;");
        BingoHall x = Check.hall("hall cards 2 rows 3 each 2 columns 5 4 3;");
        int least = MAX;
        int most = 0;
        for (int i = 0; i < x.plans(); i++) {
            for (int card = 0; card < 2; card++) {
                int sum = 0;
                for (int column = 0; column < 3; column++) {
                    least = Math.min(least, x.plan(i, card, column));
                    most = Math.max(most, x.plan(i, card, column));
                    sum += x.plan(i, card, column);
                }
                due("of a CARD", sum, 6);
            }
            for (int column = 0; column < 3; column++) {
                due("of a COLUMN", x.plan(i, 0, column) + x.plan(i, 1, column), 5 - column);
            }
        }
        due("the least", least, 1);
        due("the most", most, 3);
    }

    private static void planOrder() {
        says(0, "numbered by rows of these (CARD 0 first, COLUMN 0 first), the least first.");
        BingoHall x = Check.hall("hall cards 2 rows 3 each 2 columns 5 4 3;");
        // CARD 1 has what is left: 2 .. 3, 1 .. 3, 1 .. 2 of the COLUMNS on CARD 0, six in all.
        int[][] rows = {{2, 2, 2}, {2, 3, 1}, {3, 1, 2}, {3, 2, 1}};
        due("plans()", x.plans(), 4);
        for (int i = 0; i < 4; i++) {
            for (int column = 0; column < 3; column++) {
                due("plan " + i + ", CARD 0, " + column, x.plan(i, 0, column), rows[i][column]);
                due("plan " + i + ", CARD 1, " + column, x.plan(i, 1, column), 5 - column - rows[i][column]);
            }
        }
        due("plan 4", x.plan(4, 0, 0), -1);
        // Three CARDS: CARD 0 is alike in the first PLANS, CARD 1 tells them apart.
        BingoHall y = Check.hall("hall cards 3 rows 2 each 2 columns 5 4 3;");
        int[][] mixes = {{1, 2, 1, 2, 1, 1, 2, 1, 1}, {2, 1, 1, 1, 2, 1, 2, 1, 1}, {2, 1, 1, 2, 1, 1, 1, 2, 1}};
        due("plans()", y.plans(), 3);
        for (int at = 0; at < 27; at++) {
            due("plan " + at / 9 + " of three CARDS", y.plan(at / 9, at % 9 / 3, at % 3), mixes[at / 9][at % 9]);
        }
    }

    private static void layoutOrder() {
        says(0, "numbered by rows of sets (as bits, COLUMN 0 the lowest; row 0 first), the least first.");
        BingoHall x = Check.hall(CROSS);
        BingoHall y = Check.hall("hall cards 1 rows 3 each 1 columns 1 1 1;");
        int[][] orders = {{1, 2, 3}, {1, 3, 2}, {2, 1, 3}, {2, 3, 1}, {3, 1, 2}, {3, 2, 1}};
        for (int serial = 0; serial < 20; serial++) {
            Draws draws = new Draws(serial);
            due("one PLAN", draws.draw(1), 0);
            // The least has COLUMN 0 in row 0; else it is COLUMN 1.
            due("CROSS " + serial, x.cell(serial, 0, 0, 0), draws.draw(2) == 0 ? 1 : 0);
            Draws other = new Draws(serial);
            other.draw(1);
            int[] order = orders[other.draw(6)];
            for (int row = 0; row < 3; row++) {
                due("three rows " + serial, y.cell(serial, 0, row, order[row] - 1), order[row]);
            }
        }
        due("CROSS, its other place", x.cell(0, 0, 0, 0), 0);
    }

    private static void layoutCounts() {
        says(0, "LAYOUT of a CARD: for each row its COLUMNS, so that each COLUMN has as many as it should;");
        BingoHall x = Check.hall("hall cards 2 rows 3 each 2 columns 5 4 3;");
        for (int serial = 0; serial < 10; serial++) {
            int plan = x.made(serial);
            for (int card = 0; card < 2; card++) {
                for (int column = 0; column < 3; column++) {
                    int many = 0;
                    for (int row = 0; row < 3; row++) {
                        many += x.cell(serial, card, row, column) > 0 ? 1 : 0;
                    }
                    due("serial " + serial + ", CARD " + card + ", COLUMN " + column, many, x.plan(plan, card, column));
                }
            }
        }
    }

    private static void stripDraws() {
        says(0, "STRIP of a SERIAL: by DRAWS (VI) from it as the seed: a draw of PLANS; for each CARD, in order, a draw of its LAYOUTS;");
        BingoHall x = Check.hall(EIGHT);
        int[][] strips = {{0, 4, 7, 2, 6, 0, 1, 0, 8, 3, 5, 0}, {1, 6, 0, 3, 0, 8, 0, 4, 7, 2, 5, 0}};
        for (int at = 0; at < 12; at++) {
            due("the first, " + at, x.cell(0, at / 6, at / 3 % 2, at % 3), strips[0][at]);
            due("the last, " + at, x.cell(9999, at / 6, at / 3 % 2, at % 3), strips[1][at]);
        }
        for (int serial : new int[] {0, 1, 2, 3, 9998, 9999}) {
            due("made(" + serial + ")", x.made(serial), new Draws(serial).draw(2));
        }
    }

    private static void mixedColumns() {
        says(0, "MIXED: rising at first; for each place from the last down to the second (1):"
            + " a draw of that place and one more: these two change places.");
        // Cards of one row: one PLAN, one LAYOUT each; only what is MIXED is seen.
        String[] lines = {"hall cards 2 rows 1 each 2 columns 2 2;", "hall cards 3 rows 1 each 3 columns 3 3 3;"};
        for (int cards = 2; cards <= 3; cards++) {
            BingoHall x = Check.hall(lines[cards - 2]);
            for (int serial = 0; serial < 20; serial++) {
                Draws draws = new Draws(serial);
                draws.draw(1);
                for (int card = 0; card < cards; card++) {
                    draws.draw(1);
                }
                for (int column = 0; column < cards; column++) {
                    int[] mixed = draws.mixed(cards);
                    for (int card = 0; card < cards; card++) {
                        due(lines[cards - 2] + " " + serial, x.cell(serial, card, 0, column), cards * column + mixed[card]);
                    }
                }
            }
        }
    }

    private static void dealt() {
        says(0, "for each COLUMN, in order, its NUMBERS MIXED, dealt to CARDS, in order, as many as each should have.");
        Model m = new Model(2, 3, 2, 5, 4, 3);
        for (int serial = 0; serial < 10; serial++) {
            BingoHall x = Check.hall(m.line());
            int[][][] strip = m.strip(serial);
            for (int at = 0; at < 18; at++) {
                due("cell " + at + " of " + serial, x.cell(serial, at / 9, at / 3 % 3, at % 3), strip[at / 9][at / 3 % 3][at % 3]);
            }
        }
    }

    // III to VI.

    private static void calls() {
        says(0, "CALLS: all NUMBERS, rising at first, MIXED by draws from the CALLER's seed.");
        String[] lines = {TWO, THREE_ROWS, LARGEST};
        int[] numbers = {2, 6, 45};
        for (int i = 0; i < 3; i++) {
            BingoHall x = Check.hall(lines[i]);
            for (int seed : new int[] {0, 1, 2, 3, 99999, 2000000000}) {
                x.caller(seed);
                calls(lines[i] + " " + seed, x, new Draws(seed).mixed(numbers[i]));
            }
        }
    }

    private static void kinds() {
        says(0, "KINDS: a CARD has a row, if one of its rows is full (all called), two, if two are, house, if all are.");
        BingoHall x = Check.hall(THREE_ROWS);
        Check.put(x, 0, 2, 5, 6, 3, 4, 1);
        x.calls(0);
        // Rows 1, 2, 0 are full behind 2, 4, 6.
        int[] needs = {2, 4, 6};
        for (int kind = 0; kind < 3; kind++) {
            due("done(" + kind + ")", x.done(0, 0, kind), needs[kind]);
            due("lacks one, " + kind, x.lacks(0, 0, kind, needs[kind] - 1), 1);
            due("lacks none, " + kind, x.lacks(0, 0, kind, needs[kind]), 0);
        }
        int[] full = {0, 0, 1, 1, 2, 2, 3};
        for (int n = 0; n <= 6; n++) {
            due("full by " + n, x.full(0, 0, n), full[n]);
        }
        BingoHall y = Check.hall(CROSS);
        due("two of two rows is house", y.done(0, 0, 1), y.done(0, 0, 2));
        due("row of two rows", y.done(0, 0, 0), 1);
    }

    private static void chances() {
        says(0, "IV. CHANCE: all orders of CALLS are alike likely.");
        // Each STRIP is two CARDS of one row of two; in how many of 24 orders some CARD has it, and CARD 0.
        BingoHall x = Check.hall("hall cards 2 rows 1 each 2 columns 2 2; sold 0;");
        int[] some = new int[5];
        int[] told = new int[5];
        for (int code = 0; code < 256; code++) {
            int seen = 0;
            long[] order = new long[4];
            for (int at = 0; at < 4; at++) {
                order[at] = 1 + (code >> 2 * at & 3);
                seen |= 1 << order[at];
            }
            if (seen == 30) {
                Check.put(x, 0, order);
                x.calls(0);
                int first = x.first(0);
                int own = x.done(0, 0, 0);
                for (int n = 0; n <= 4; n++) {
                    some[n] += first <= n ? 1 : 0;
                    told[n] += own <= n ? 1 : 0;
                }
            }
        }
        for (int n = 0; n <= 4; n++) {
            due("some by " + n, 24 * x.some(0, n, 0), some[n] * x.some(0, n, 1));
            due("a told one by " + n, 24 * x.chance(0, n, 0), told[n] * x.chance(0, n, 1));
            due("just at " + n, n == 0 ? 0 : 24 * x.just(0, n, 0), n == 0 ? 0 : (some[n] - some[n - 1]) * x.just(0, n, 1));
        }
    }

    private static void lowestTerms() {
        says(0, "FRACTIONS are told in lowest terms (0 / 1, 1 / 1).");
        BingoHall x = Check.hall(EIGHT);
        fraction("0", x.chance(0, 1, 0), x.chance(0, 1, 1), 0, 1);
        fraction("0", x.some(2, 3, 0), x.some(2, 3, 1), 0, 1);
        fraction("0", x.just(0, 6, 0), x.just(0, 6, 1), 0, 1);
        fraction("1", x.chance(2, 8, 0), x.chance(2, 8, 1), 1, 1);
        fraction("1", x.some(0, 5, 0), x.some(0, 5, 1), 1, 1);
        fraction("4 of 28", x.some(0, 2, 0), x.some(0, 2, 1), 1, 7);
        fraction("35 of 70", x.chance(2, 7, 0), x.chance(2, 7, 1), 1, 2);
        fraction("29 of 70", x.chance(0, 4, 0), x.chance(0, 4, 1), 29, 70);
        fraction("72 / 9", x.mean(8, 0), x.mean(8, 1), 8, 1);
    }

    private static void partedPrizes() {
        says(0, "PRIZES: parted alike among all CARDS that have that KIND first, whole; what can't be is left over.");
        // The first house is four CARDS', the first row two's.
        int[][] parted = {{0, 0, 0}, {1, 0, 1}, {3, 0, 3}, {4, 1, 0}, {5, 1, 1}, {7, 1, 3}, {8, 2, 0}, {9999, 2499, 3}};
        for (int[] it : parted) {
            BingoHall x = Check.hall(SOLD_EIGHT + "prize house " + it[0] + ";");
            due("each of " + it[0], x.prize(2, 0), it[1]);
            due("left of " + it[0], x.prize(2, 1), it[2]);
        }
        BingoHall y = Check.hall(SOLD_EIGHT + "prize row 101;");
        due("each of two", y.prize(0, 0), 50);
        due("left of two", y.prize(0, 1), 1);
    }

    private static void jackpotCalls() {
        says(0, "JACKPOT: for the house, if it is had by told CALL or ahead; parted likewise.");
        // The first house is behind 7, the first row behind 2.
        int[][] won = {{2, 0, 5}, {6, 0, 1}, {7, 8, 0}, {8, 8, 0}};
        for (int[] it : won) {
            BingoHall x = Check.hall(SOLD_EIGHT + "jackpot 11 by " + it[0] + ";");
            due("won by " + it[0], x.jackpot(0), it[1]);
            due("missed by " + it[0], x.jackpot(1), it[2]);
            due("a part by " + it[0], x.wins(0), it[1] / 4);
        }
    }

    private static void draws() {
        says(0, "VI. DRAWS: x becomes (1103515245 x + 12345) modulo 2,147,483,648 (at first it is the seed);"
            + " a draw of n: twice so, a and b what x / 65536, cut, is then: (32,768 a + b) modulo n.");
        BingoHall x = Check.hall(LARGEST);
        for (int seed : new int[] {0, 1, 65535, 65536, 1999999999, 2000000000}) {
            x.caller(seed);
            calls("caller(" + seed + ")", x, new Draws(seed).mixed(45));
        }
        // By hand: 12345 / 65536 is 0; then 1406932606 / 65536 is 21468: 0 and 21468 modulo 2 is 0: 2 and 1 change places.
        BingoHall y = Check.hall(TWO + "caller 0;");
        calls("caller 0 of two", y, 2, 1);
        // 1103527590 / 65536 is 16838, then 377401575 / 65536 is 5758: 551753342 modulo 2 is 0.
        y.caller(1);
        calls("caller 1 of two", y, 2, 1);
        for (int seed = 0; seed < 20; seed++) {
            y.caller(seed);
            due("caller " + seed + " of two", y.call(1), new Draws(seed).draw(2) == 0 ? 1 : 2);
        }
    }
}
