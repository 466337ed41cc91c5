/** Promises 1 to 10: the TAPE, the HALL, its COLUMNS, PLANS and LAYOUTS. */
final class BoundaryTape extends Boundary {
    static void all() {
        newObject();
        feedMost();
        feedOrder();
        end();
        hallEmpty();
        hallInPlace();
        callsInPlace();
        plansInPlace();
        hallLines();
        hallFault();
        fault();
        faultPlace();
        faultOther();
        column();
        numbers();
        plans();
        planTooMany();
        planNoneSuch();
        layouts();
        layoutsNoSlot();
        layoutsNothing();
        layoutsLength();
    }

    private static void newObject() {
        says(1, "No HALL.");
        BingoHall x = new BingoHall();
        due("numbers()", x.numbers(), -2);
        for (int what = 0; what <= 9; what++) {
            due("count(" + what + ")", x.count(what), 0);
        }
        due("fault(1)", x.fault(1), -1);
        due("back(0)", x.back(0), -6);
        due("write(0, 0, 0)", x.write(0, 0, 0), -6);
        due("hall() of an empty TAPE", x.hall(), 0);
        due("numbers() then", x.numbers(), -2);
    }

    private static int feedOnce(BingoHall x) {
        return x.feed(0x20202020, 0x20202020, 0x20202020, 0x20202020, 0x20202020);
    }

    private static void feedMost() {
        says(2, "how many it has; NONE, and none come, if it would have more than 800.");
        BingoHall x = new BingoHall();
        for (int i = 1; i <= 40; i++) {
            due("feed " + i, feedOnce(x), 20 * i);
        }
        due("feed of a full TAPE", feedOnce(x), -1);
        due("count(6) of a full TAPE", x.count(6), 800);
        int[][] lengths = {{799, -1}, {781, -1}, {780, 800}, {779, 799}, {0, 20}};
        for (int[] it : lengths) {
            x.end(it[0]);
            due("feed of " + it[0], feedOnce(x), it[1]);
            due("count(6) then", x.count(6), it[1] == -1 ? it[0] : it[1]);
            while (x.count(6) < 780) {
                feedOnce(x);
            }
            x.end(780);
            feedOnce(x);
        }
        // None come: what would not fit is not read either.
        BingoHall y = new BingoHall();
        for (int i = 1; i <= 40; i++) {
            feedOnce(y);
        }
        y.end(781);
        due("feed of strange bytes", y.feed(-1, -1, -1, -1, -1), -1);
        due("hall() of blanks alone", y.hall(), 0);
    }

    private static void feedOrder() {
        says(2, "Twenty bytes come behind the TAPE, four of each number, the highest first");
        BingoHall x = new BingoHall();
        // "hall cards 1 rows 1 each 2 columns 1 1; "
        due("feed", x.feed(0x68616c6c, 0x20636172, 0x64732031, 0x20726f77, 0x73203120), 20);
        due("feed", x.feed(0x65616368, 0x20322063, 0x6f6c756d, 0x6e732031, 0x20313b20), 40);
        due("hall()", x.hall(), 1);
        int[][] bytes = {
            {0x80202020, 0}, {0x20ff2020, 1}, {0x20208120, 2}, {0x202020ff, 3}, {MIN, 0}, {MAX, 0}, {-1, 0}, {0x20200a20, 20}};
        for (int[] it : bytes) {
            x.feed(it[0], 0x20202020, 0x20202020, 0x20202020, 0x20202020);
            due("hall() of " + it[0], x.hall(), it[1] == 20 ? 0 : -4);
            due("fault(1) of " + it[0], x.fault(1), it[1] == 20 ? -1 : it[1]);
        }
        for (int at = 0; at < 5; at++) {
            int[] words = {0x20202020, 0x20202020, 0x20202020, 0x20202020, 0x20202020};
            words[at] = 0x20202041;
            x.feed(words[0], words[1], words[2], words[3], words[4]);
            x.hall();
            due("fault(1) of number " + at, x.fault(1), 4 * at + 3);
        }
    }

    private static void end() {
        says(3, "The TAPE has its first n bytes alone: n; NONE, and nothing happens, if it has not so many, or n is below 0.");
        BingoHall x = new BingoHall();
        due("end(0) of none", x.end(0), 0);
        due("end(1) of none", x.end(1), -1);
        Check.feed(x, TWO + "?");
        int length = TWO.length() + 1;
        due("end(one more)", x.end(length + 1), -1);
        due("end(-1)", x.end(-1), -1);
        due("end(MIN)", x.end(MIN), -1);
        due("end(MAX)", x.end(MAX), -1);
        due("nothing happens", x.count(6), length);
        due("end(all)", x.end(length), length);
        due("end(one less)", x.end(length - 1), length - 1);
        due("end(what was there)", x.end(length), -1);
        due("hall() of the first bytes", x.hall(), 1);
    }

    private static void hallEmpty() {
        says(4, "The TAPE (empty then) is the HALL (in place of another): how many LINES (0: there is none then).");
        BingoHall x = Check.hall(SOLD_EIGHT + "prize row 5; jackpot 6 by 7; caller 2;");
        due("count(6)", x.count(6), 0);
        due("count(5)", x.count(5), 8);
        due("another", Check.read(x, TWO), 1);
        int[] counts = {1, 1, 2, 2, 0, 1, 0, 0, 0, 0};
        for (int what = 0; what < 10; what++) {
            due("count(" + what + ") of another", x.count(what), counts[what]);
        }
        due("prize(0, 1) of another", x.prize(0, 1), 0);
        for (int i = 0; i < 3; i++) {
            due("once more", Check.read(x, EIGHT), 1);
            due("plans() once more", x.plans(), 2);
            due("count(4) once more", x.count(4), 0);
        }
        due("another", Check.read(x, TWO), 1);
        due("numbers() of another", x.numbers(), 2);
        x.sell(0);
        due("none", x.hall(), 0);
        for (int what = 0; what < 10; what++) {
            due("count(" + what + ") of none", x.count(what), 0);
        }
        due("numbers() of none", x.numbers(), -2);
        due("call(0) of none", x.call(0), -1);
        due("sold(0) of none", x.sold(0), -1);
    }

    /** What was seen of a larger HALL's CARDS doesn't come back. */
    private static void hallInPlace() {
        says(4, "is the HALL (in place of another)");
        BingoHall x = Check.hall(ALL_SOLD);
        for (int i = 0; i < 3; i++) {
            due("daubs of the larger", x.daubs(0, 0, 45), 15);
            Check.read(x, EIGHT);
            due("daubs(0, 0, 0)", x.daubs(0, 0, 0), 0);
            due("daubs(0, 0, 7)", x.daubs(0, 0, 7), 3);
            for (int column = 0; column < 3; column++) {
                Check.read(x, ALL_SOLD);
                x.daubs(0, 0, 45);
                Check.read(x, EIGHT);
                due("filled(0, 0, " + column + ")", x.filled(0, 0, column), new int[] {6, 3, 8}[column]);
            }
            due("full(0, 0, 8)", x.full(0, 0, 8), 2);
            due("done(0, 0, 2)", x.done(0, 0, 2), 8);
            due("lacks(0, 0, 1, 6)", x.lacks(0, 0, 1, 6), 1);
            due("corners(0, 1)", x.corners(0, 1), 7);
            due("last(0, 1)", x.last(0, 1), 8);
            due("where(0, 9)", x.where(0, 9), -2);
            due("sold(0)", x.sold(0), -1);
            due("sell(0)", x.sell(0), 1);
            due("first(2)", x.first(2), 7);
            Check.read(x, ALL_SOLD);
        }
    }

    /** Nor do a larger HALL's CALLS, of which the ninth may be a NUMBER of the smaller one. */
    private static void callsInPlace() {
        says(4, "is the HALL (in place of another)");
        int[] turns = {2, 6, 4, 1, 5, 3, 8, 7};
        int seen = 0;
        for (int seed = 0; seed < 40; seed++) {
            BingoHall x = Check.hall(LARGEST + "caller " + seed + ";");
            seen += x.call(8) <= 8 ? 1 : 0;
            x.evenings(seed, 1, 0, 0);
            for (int i = 0; i < 2; i++) {
                Check.read(x, SOLD_EIGHT);
                for (int number = 1; number <= 8; number++) {
                    due("called(" + number + ") behind seed " + seed, x.called(number), turns[number - 1]);
                }
                due("call(8)", x.call(8), -1);
                due("evenings(1, 1, 0, 0)", x.evenings(1, 1, 0, 0), 2);
                due("evenings(1, 1, 2, 0)", x.evenings(1, 1, 2, 0), 7);
            }
        }
        due("the ninth was one of eight", seen > 0 ? 1 : 0, 1);
    }

    /** Nor do the mixes of its CARDS: 1 3 2 is one of three rows alone, 2 2 2 the only one of two rows. */
    private static void plansInPlace() {
        says(4, "-4: a FAULT");
        BingoHall x = new BingoHall();
        String[] none = {"hall cards 2 rows 2 each 3 columns 3 5 4;", "hall cards 3 rows 2 each 3 columns 5 7 6;"};
        for (int i = 0; i < 4; i++) {
            due("three rows", Check.read(x, "hall cards 2 rows 3 each 2 columns 5 4 3;"), 1);
            due("three rows again", Check.read(x, "hall cards 2 rows 3 each 2 columns 5 4 3;"), 1);
            due("two rows without a PLAN", Check.read(x, none[i % 2]), -4);
            due("its FAULT", x.fault(0), 2);
            due("its place", x.fault(1), none[i % 2].length() - 1);
            due("two rows", Check.read(x, "hall cards 2 rows 2 each 3 columns 4 4 4;"), 1);
            due("its PLANS", x.plans(), 1);
            due("its PLAN", x.plan(0, 1, 1), 2);
        }
    }

    private static void hallLines() {
        says(4, "how many LINES (0: there is none then)");
        StringBuilder text = new StringBuilder(TWO);
        int lines = 1;
        while (text.length() + 9 <= 800) {
            good(text.toString(), lines);
            text.append("caller 1;");
            lines++;
        }
        good("", 0);
        good(" ", 0);
        good("\n", 0);
    }

    private static void hallFault() {
        says(4, "-4: a FAULT (the TAPE is empty, all else stays).");
        BingoHall x = Check.hall(SOLD_EIGHT + "prize row 5; jackpot 6 by 7; caller 2;");
        Check.put(x, 2, 1, 6);
        x.keep(1);
        due("a FAULT", Check.read(x, TWO + "sold 1; prize row 9; caller 0; jackpot 1 by 3;"), -4);
        int[] counts = {2, 2, 2, 3, 4, 8, 0, 6, 7, 1};
        for (int what = 0; what < 10; what++) {
            due("count(" + what + ") stays", x.count(what), counts[what]);
        }
        calls("stay", x, 1, 6, 3, 7, 4, 8, 5, 2);
        due("sold(0) stays", x.sold(0), 0);
        due("prize(0, 1) + 2 prize(0, 0)", x.prize(0, 1) + x.winner(0, -1) * x.prize(0, 0), 5);
        due("plans() stays", x.plans(), 2);
        due("judge(2) stays", x.judge(2), 2);
        due("back(1) stays", x.back(1), 0);
        due("of a new object", Check.read(new BingoHall(), "?"), -4);
        due("no FAULT", Check.read(x, TWO), 1);
    }

    private static void fault() {
        says(5, "Of the latest hall(), what 0: its FAULT, 0 without");
        BingoHall x = new BingoHall();
        due("ahead of any", x.fault(0), 0);
        String five = "hall cards 1 rows 1 each 2 columns 1 1 1 1 1 1;";
        String[] texts = {"?", TWO, "hall cards 0", "", five, TWO};
        int[] faults = {1, 0, 2, 0, 3, 0};
        for (int i = 0; i < texts.length; i++) {
            Check.read(x, texts[i]);
            due("of " + texts[i], x.fault(0), faults[i]);
            x.sell(10000);
            due("of " + texts[i] + ", still", x.fault(0), faults[i]);
        }
    }

    private static void faultPlace() {
        says(5, "1: its place (NONE without).");
        BingoHall x = new BingoHall();
        String[] texts = {"?", TWO, " hall cards 0", "", "hall", " "};
        int[] places = {0, -1, 12, -1, 4, -1};
        for (int i = 0; i < texts.length; i++) {
            Check.read(x, texts[i]);
            due("of " + texts[i], x.fault(1), places[i]);
        }
        StringBuilder text = new StringBuilder(TWO);
        while (text.length() < 799) {
            text.append(' ');
        }
        Check.read(x, text + "?");
        due("of the last byte", x.fault(1), 799);
        Check.read(x, text.substring(0, 793) + "sold 1 ");
        due("of the end", x.fault(1), 800);
    }

    private static void faultOther() {
        says(5, "NONE for another what, and ahead of any (what 1).");
        BingoHall x = new BingoHall();
        due("fault(1) ahead of any", x.fault(1), -1);
        due("fault(0) ahead of any", x.fault(0), 0);
        Check.read(x, " ?");
        within("fault(what)", -1, 0, 1, 1, 1, x::fault);
    }

    private static void column() {
        says(6, "Of a COLUMN, what 0: its first NUMBER, 1: how many it has. -2: there are none such.");
        BingoHall x = Check.hall(EIGHT);
        within("column(column, 0)", -2, 0, 1, 2, 7, column -> x.column(column, 0));
        within("column(column, 1)", -2, 0, 3, 2, 2, column -> x.column(column, 1));
        within("column(1, what)", -2, 0, 4, 1, 3, what -> x.column(1, what));
        due("no HALL", new BingoHall().column(0, 0), -2);
        BingoHall y = Check.hall(LARGEST);
        within("column(column, 0) of five", -2, 0, 1, 4, 37, column -> y.column(column, 0));
        Check.read(y, EIGHT);
        due("of a HALL that isn't any more", y.column(3, 0), -2);
    }

    private static void numbers() {
        says(7, "How many NUMBERS there are. -2: there is no HALL.");
        due("no HALL", new BingoHall().numbers(), -2);
        due("the fewest", Check.hall(TWO).numbers(), 2);
        due("the most", Check.hall(LARGEST).numbers(), 45);
        BingoHall x = Check.hall(EIGHT);
        due("EIGHT", x.numbers(), 8);
        x.hall();
        due("none any more", x.numbers(), -2);
    }

    private static void plans() {
        says(8, "How many PLANS there are (II). -2: there is no HALL.");
        due("no HALL", new BingoHall().plans(), -2);
        due("one", Check.hall(TWO).plans(), 1);
        due("one, of all rows", Check.hall(LARGEST).plans(), 1);
        due("two", Check.hall(EIGHT).plans(), 2);
        due("three CARDS", Check.hall("hall cards 3 rows 2 each 2 columns 5 4 3;").plans(), 3);
        Model m = new Model(3, 3, 3, 6, 6, 6, 5, 4);
        due("many", Check.hall(m.line()).plans(), m.plans.size());
    }

    private static void planTooMany() {
        says(9, "Of PLAN i how many NUMBERS a CARD has of a COLUMN. NONE: there are not so many");
        BingoHall x = Check.hall(EIGHT);
        within("plan(i, 0, 0)", -1, 0, 1, 1, 2, i -> x.plan(i, 0, 0));
        within("plan(i, 1, 2)", -1, 0, 1, 1, 1, i -> x.plan(i, 1, 2));
        BingoHall y = Check.hall(TWO);
        within("plan(i, 0, 0) of one", -1, 0, 1, 0, 1, i -> y.plan(i, 0, 0));
        BingoHall z = Check.hall(LARGEST);
        due("the most of a COLUMN", z.plan(0, 2, 4), 3);
    }

    private static void planNoneSuch() {
        says(9, "-2: there are none such.");
        BingoHall x = Check.hall(EIGHT);
        within("plan(0, card, 0)", -2, 0, 1, 1, 2, card -> x.plan(0, card, 0));
        within("plan(1, 1, column)", -2, 0, 1, 2, 1, column -> x.plan(1, 1, column));
        due("no HALL", new BingoHall().plan(0, 0, 0), -2);
    }

    private static void layouts() {
        says(10, "In how many ways a SLOT's row can be laid out as a CARD (II): how many NUMBERS it has of each COLUMN (0: it can't).");
        BingoHall x = Check.hall(EIGHT);
        // Two rows of two; a COLUMN once in a row at most.
        long[][] rows = {
            {2, 1, 1, 2}, {2, 2, 0, 1}, {0, 2, 2, 1}, {1, 1, 2, 2}, {1, 1, 1, 0}, {2, 2, 1, 0}, {3, 1, 0, 0}, {3, 0, 1, 0},
            {-1, 2, 2, 0}, {-1, 3, 2, 0}, {2, 2, -1, 0}, {0, 0, 0, 0}, {4, 0, 0, 0}, {2, 1, 33, 0}, {1L << 32, 2, 2, 0},
            {(1L << 32) + 2, 1, 1, 0}, {Long.MAX_VALUE, 2, 2, 0}, {Long.MIN_VALUE, 2, 2, 0}, {2, 1, -31, 0}};
        for (long[] it : rows) {
            Check.put(x, 0, it[0], it[1], it[2]);
            due("layouts of " + it[0] + " " + it[1] + " " + it[2], x.layouts(0), it[3]);
        }
        BingoHall y = Check.hall("hall cards 1 rows 3 each 1 columns 1 1 1;");
        Check.put(y, 0, 1, 1, 1);
        due("each order of three", y.layouts(0), 6);
        Check.put(y, 0, 3, 0, 0);
        due("one alone", y.layouts(0), 1);
        Check.put(y, 0, 2, 1, 1);
        due("one too many", y.layouts(0), 0);
        BingoHall z = Check.hall(LARGEST);
        Check.put(z, 0, 3, 3, 3, 3, 3);
        due("all places", z.layouts(0), 1);
        Check.put(z, 0, 3, 3, 3, 3, 2);
        due("all places but one", z.layouts(0), 0);
        Check.put(z, 0, 4, 3, 3, 3, 2);
        due("as many, but no place", z.layouts(0), 0);
    }

    private static void layoutsNoSlot() {
        says(10, "-2: there is no such SLOT, no HALL");
        BingoHall x = Check.hall(EIGHT);
        Check.put(x, 0, 2, 1, 1);
        Check.put(x, 3, 2, 2, 0);
        within("layouts", -2, 0, 2, 3, 1, x::layouts);
        BingoHall y = new BingoHall();
        due("no HALL ahead of nothing", y.layouts(0), -2);
        y.row(0, 0, 0);
        due("no HALL", y.layouts(0), -2);
    }

    private static void layoutsNothing() {
        says(10, "-6: it has nothing");
        BingoHall x = Check.hall(EIGHT);
        due("nothing", x.layouts(1), -6);
        x.row(1, 0, 3);
        due("a row", x.layouts(1), 0);
        due("another SLOT still", x.layouts(2), -6);
    }

    private static void layoutsLength() {
        says(10, "-7: there are not as many as COLUMNS.");
        BingoHall x = Check.hall(EIGHT);
        int[] due = {-7, -7, -7, 0, -7};
        for (int n = 0; n < 5; n++) {
            x.row(0, 0, n);
            due("layouts of " + n, x.layouts(0), due[n]);
        }
        x.row(0, 0, 60);
        due("layouts of 60", x.layouts(0), -7);
        Check.read(x, TWO);
        Check.put(x, 0, 1, 1, 0);
        due("of a HALL of two", x.layouts(0), -7);
        Check.put(x, 0, 1, 1);
        due("of a HALL of two", x.layouts(0), 1);
    }
}
