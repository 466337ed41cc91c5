/** TOKENS, LINES and FAULTS of the TAPE (I), as hall() and fault() tell them. */
public final class TapeTest {
    private static final String HALL = "hall cards 1 rows 1 each 2 columns 1 1;";

    public static void main(String[] args) {
        goodTapes();
        formWords();
        formNumbers();
        columns();
        columnsTogether();
        laterLines();
        moneyLines();
        soldLines();
        strangeTokens();
        firstFaultAlone();
        longTapes();
        Check.end();
    }

    private static void good(String text, int lines) {
        BingoHall x = new BingoHall();
        Check.due("hall " + text, Check.read(x, text), lines);
        Check.due("fault of " + text, x.fault(0), 0);
        Check.due("place of " + text, x.fault(1), -1);
        Check.due("lines of " + text, x.count(5), lines);
    }

    private static void bad(String text, int fault, int place) {
        BingoHall x = new BingoHall();
        Check.due("hall " + text, Check.read(x, text), -4);
        Check.due("fault of " + text, x.fault(0), fault);
        Check.due("place of " + text, x.fault(1), place);
        Check.due("no lines of " + text, x.count(5), 0);
        Check.due("no tape of " + text, x.count(6), 0);
    }

    /** A FAULT at the first place of the last piece of a text. */
    private static void badAt(int fault, String ahead, String from) {
        bad(ahead + from, fault, ahead.length());
    }

    private static void goodTapes() {
        good("", 0);
        good(" ", 0);
        good("\n\n  \n", 0);
        good(HALL, 1);
        good("\n " + HALL + " \n", 1);
        good("hall\ncards\n1\nrows\n1\neach\n2\ncolumns\n1\n1\n;\n", 1);
        good("hall cards1rows1each2columns1 1;", 1);
        good("hall cards 001 rows 01 each 0000002 columns 0001 1;", 1);
        good(HALL + "prize row 1;prize two 2;prize house 3;jackpot 4 by 2;sold 5;caller 6;", 7);
        good(HALL + "caller 0;caller 99999;prize row 0;prize row 9999;jackpot 0 by 1;jackpot 9999 by 2;", 7);
        good("hall cards 3 rows 3 each 5 columns 9 9 9 9 9;", 1);
        good("hall cards 1 rows 3 each 5 columns 3 3 3 3 3;", 1);
        good("hall cards 3 rows 1 each 5 columns 3 3 3 3 3;", 1);
        good("hall cards 1 rows 3 each 1 columns 2 1;", 1);
    }

    private static void formWords() {
        badAt(1, "", "cards 1;");
        badAt(1, "", "prize row 5;");
        badAt(1, "", "sold 5;" + HALL);
        badAt(1, "", "foo");
        badAt(1, "", "halls cards 1");
        badAt(1, "", "hal");
        badAt(1, "", "tall cards 1 rows 1 each 2 columns 1 1;");
        badAt(1, "hall ", "wards 1 rows 1");
        badAt(1, "", "5");
        badAt(1, "", ";");
        badAt(1, "", ";" + HALL);
        badAt(1, "hall", "");
        badAt(1, "hall ", "");
        badAt(1, "hall  \n", "");
        badAt(1, "hall ", "1 rows 1");
        badAt(1, "hall ", "rows 1");
        badAt(1, "hall ", "hall");
        badAt(1, "hall cards ", "rows");
        badAt(1, "hall cards ", ";");
        badAt(1, "hall cards", "");
        badAt(1, "hall cards 1 ", "1");
        badAt(1, "hall cards 1 ", ";");
        badAt(1, "hall cards 1 ", "row 1 each 1 columns 1 1;");
        badAt(1, "hall cards 1 rows ", "each");
        badAt(1, "hall cards 1 rows 1 ", "columns 1 1;");
        badAt(1, "hall cards 1 rows 1 each ", "columns 1 1;");
        badAt(1, "hall cards 1 rows 1 each 1 ", "1 1;");
        badAt(1, "hall cards 1 rows 1 each 1 ", ";");
    }

    private static void formNumbers() {
        badAt(2, "hall cards ", "0 rows 9;");
        badAt(2, "hall cards ", "4");
        badAt(2, "hall cards ", "10 rows 1");
        badAt(2, "hall cards ", "4294967297 rows 1");
        badAt(2, "hall cards ", "18446744073709551617 rows 1");
        badAt(2, "hall cards 1 rows ", "0");
        badAt(2, "hall cards 1 rows ", "4");
        badAt(2, "hall cards 1 rows 1 each ", "0");
        badAt(2, "hall cards 1 rows 1 each ", "6");
        badAt(2, "hall cards 1 rows 1 each 2 columns ", "0 1;");
        badAt(2, "hall cards 1 rows 1 each 2 columns ", "16 1;");
        badAt(2, "hall cards 1 rows 1 each 2 columns 1 ", "0;");
        badAt(2, "hall cards 1 rows 1 each 2 columns 1 ", "16;");
    }

    private static void columns() {
        String ahead = "hall cards 3 rows 3 each 5 columns ";
        badAt(1, ahead, ";");
        badAt(1, ahead, "");
        badAt(1, ahead, "x");
        badAt(1, ahead + "9 9 9 9 9", "");
        badAt(1, ahead + "9 9 9 9 9 ", "prize row 1;");
        badAt(1, ahead + "9 9 9 9 9 ", "hall;");
        badAt(1, ahead + "9 9 ", "?");
        badAt(3, ahead + "9 9 9 9 9 ", "1;");
        badAt(3, ahead + "9 9 9 9 9 ", "15 99;");
        badAt(3, ahead + "1 1 1 1 1 ", "9");
        // Of one place the least.
        badAt(2, ahead + "9 9 9 9 9 ", "0;");
        badAt(2, ahead + "9 9 9 9 9 ", "16;");
        badAt(2, ahead + "9 9 9 9 ", "99 9;");
    }

    private static void columnsTogether() {
        // One COLUMN alone; fewer than each; not as many together.
        badAt(2, "hall cards 1 rows 1 each 1 columns 1", ";");
        badAt(2, "hall cards 3 rows 1 each 1 columns 3 ", ";");
        badAt(2, "hall cards 1 rows 3 each 3 columns 5 4 ", ";");
        badAt(2, "hall cards 1 rows 1 each 1 columns 1 1 ", ";" + HALL);
        badAt(2, "hall cards 3 rows 3 each 5 columns 9 9 9 9 8", ";");
        badAt(2, "hall cards 3 rows 3 each 5 columns 9 9 9 9 10", ";");
        // No PLAN: a CARD has at most rows of a COLUMN; each CARD has one of each.
        badAt(2, "hall cards 1 rows 2 each 2 columns 3 1", ";");
        badAt(2, "hall cards 2 rows 2 each 2 columns 5 3", ";");
        badAt(2, "hall cards 2 rows 2 each 2 columns 4 3 1", ";");
        badAt(2, "hall cards 1 rows 1 each 1 columns 1 1", ";");
        badAt(2, "hall cards 3 rows 1 each 2 columns 3 1 2", ";");
        good("hall cards 2 rows 2 each 2 columns 4 2 2;", 1);
        good("hall cards 2 rows 2 each 2 columns 4 4;", 1);
    }

    private static void laterLines() {
        badAt(1, HALL + " ", HALL);
        badAt(1, HALL + "caller 5; ", "hall");
        badAt(1, HALL, ";");
        badAt(1, HALL, "7");
        badAt(1, HALL, "rows 1;");
        badAt(1, HALL, "callers 1;");
        badAt(1, HALL, "gold 1;");
        badAt(1, HALL, "taller 1;");
        badAt(1, HALL + "caller ", ";");
        badAt(1, HALL + "caller ", "caller 1;");
        badAt(1, HALL + "caller", "");
        badAt(1, HALL + "caller 1", "");
        badAt(1, HALL + "caller 1 ", "1;");
        badAt(1, HALL + "caller 1 ", "prize row 1;");
        badAt(2, HALL + "caller ", "100000;");
        badAt(2, HALL + "caller ", "99999999999999999999;");
        badAt(2, HALL + "caller 1; caller ", "100000");
    }

    private static void moneyLines() {
        badAt(1, HALL + "prize ", "5;");
        badAt(1, HALL + "prize ", "rows 5;");
        badAt(1, HALL + "prize ", "hous 5;");
        badAt(1, HALL + "prize ", ";");
        badAt(1, HALL + "prize", "");
        badAt(1, HALL + "prize row ", ";");
        badAt(1, HALL + "prize row ", "two 1;");
        badAt(2, HALL + "prize row ", "10000;");
        badAt(2, HALL + "prize two ", "10000;");
        badAt(2, HALL + "prize house ", "123456;");
        badAt(1, HALL + "prize house 5 ", "5;");
        badAt(1, HALL + "jackpot ", "by 1;");
        badAt(2, HALL + "jackpot ", "10000 by 1;");
        badAt(1, HALL + "jackpot 5 ", ";");
        badAt(1, HALL + "jackpot 5 ", "1;");
        badAt(1, HALL + "jackpot 5 by ", ";");
        badAt(2, HALL + "jackpot 5 by ", "0;");
        badAt(2, HALL + "jackpot 5 by ", "3;");
        badAt(1, HALL + "jackpot 5 by 2 ", "3;");
    }

    private static void soldLines() {
        badAt(1, HALL + "sold ", ";");
        badAt(1, HALL + "sold", "");
        badAt(1, HALL + "sold 0; sold ", ";");
        badAt(1, HALL + "sold 0; sold ", "sold 1;");
        badAt(2, HALL + "sold ", "10000;");
        badAt(2, HALL + "sold ", "10000");
        // Each STRIP of HALL is 1 2.
        badAt(2, HALL + "sold 1; sold ", "1;");
        badAt(2, HALL + "sold 1; sold ", "9999;");
        badAt(2, HALL + "sold 1; sold ", "2");
        badAt(1, HALL + "sold 1 ", "2;");
        String eight = "hall cards 3 rows 3 each 5 columns 9 9 9 9 9;"
            + "sold 0; sold 1; sold 2; sold 3; sold 4; sold 5; sold 6; sold 9999;";
        good(eight, 9);
        good(eight + "caller 5;", 10);
        badAt(3, eight + " ", "sold 7;");
        badAt(3, eight + " ", "sold");
        badAt(3, eight + " ", "sold 0;");
        badAt(3, eight + " caller 1;", "sold 10000;");
        badAt(2, eight.substring(0, eight.length() - 5), "6;");
    }

    private static void strangeTokens() {
        String strange = "\t\rA_-,.:+\0\u007f\u0080\u00ff`{/Z";
        for (int i = 0; i < strange.length(); i++) {
            String sign = strange.substring(i, i + 1);
            badAt(1, "", sign);
            badAt(1, "hall", sign + " cards");
            badAt(1, "hall ", sign + "cards 1");
            badAt(1, "hall cards 1", sign);
            badAt(1, HALL + " ", sign);
        }
        badAt(1, "hall ", "Cards 1");
        badAt(1, "hall cards ", "-1 rows 1");
        badAt(1, "hall cards ", "c1");
        badAt(1, "hall cards 1", "x rows 1");
    }

    /** The first by its place, though worse ones come behind. */
    private static void firstFaultAlone() {
        badAt(2, "hall cards ", "9 rows ? columns 1 1 1 1 1 1 hall");
        badAt(1, "hall ", "? cards 9");
        badAt(3, "hall cards 3 rows 3 each 5 columns 9 9 9 9 9 ", "9 ?");
        BingoHall x = Check.hall(HALL + "prize row 7; sold 3; caller 2;");
        String other = "hall cards 2 rows 2 each 2 columns 3 3 2; sold 4; prize row 5; jackpot 7 by ";
        Check.due("bad", Check.read(x, other + "9;"), -4);
        Check.due("of the new one's NUMBERS", x.fault(1), other.length());
        Check.due("stays", x.numbers(), 2);
        Check.due("stays", x.prize(0, 0), 7);
        Check.due("stays", x.sold(0), 3);
        Check.due("stays", x.jackpot(1), -1);
        Check.due("stays", x.column(2, 0), -2);
        Check.due("stays", x.plans(), 1);
    }

    private static void longTapes() {
        StringBuilder text = new StringBuilder(HALL);
        int lines = 1;
        while (text.length() < 792) {
            text.append("caller 1;");
            lines++;
        }
        good(text.toString(), lines);
        text.setLength(text.length() - 1);
        while (text.length() < 800) {
            text.append(' ');
        }
        badAt(1, text.toString(), "");
        text.setCharAt(799, ';');
        good(text.toString(), lines);
        StringBuilder digits = new StringBuilder("hall cards ");
        while (digits.length() < 800) {
            digits.append('0');
        }
        badAt(2, "hall cards ", digits.substring(11));
        digits.setCharAt(799, '1');
        badAt(1, digits.toString(), "");
        digits.setCharAt(798, '9');
        badAt(2, "hall cards ", digits.substring(11));
    }
}
