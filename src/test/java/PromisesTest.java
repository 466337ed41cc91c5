/** Each promise by its number, with answers worked out by hand: ordinary inputs, edges, wrong inputs. */
public final class PromisesTest {
    private static final int MAX = Integer.MAX_VALUE;
    private static final int MIN = Integer.MIN_VALUE;

    /**
     * Eight NUMBERS: 1 2 3, 4 5 6, 7 8. CALLS of seed 1: 4 1 6 3 5 2 8 7. STRIPS:
     * serial 0 and 1: 0 4 7 / 2 6 0 and 1 0 8 / 3 5 0; 2: 1 4 0 / 3 0 8 and 0 5 7 / 2 6 0;
     * 3: 2 4 0 / 3 0 8 and 1 5 0 / 0 6 7; 7: 1 4 0 / 0 5 8 and 2 0 7 / 3 6 0.
     */
    private static final String EIGHT = "hall cards 2 rows 2 each 2 columns 3 3 2;";
    /** As EIGHT, with money and four STRIPS. */
    private static final String FULL_EIGHT = EIGHT + "prize row 101; prize two 10; prize house 1000;"
        + "jackpot 999 by 7; sold 0; sold 2; sold 3; sold 7;";
    /** Two NUMBERS, one row: each STRIP is 1 2. */
    private static final String TWO = "hall cards 1 rows 1 each 2 columns 1 1;";
    /** Two NUMBERS, two rows of one. Serials 0, 1, 4, 5: 0 2 / 1 0; 2, 3: 1 0 / 0 2. */
    private static final String CROSS = "hall cards 1 rows 2 each 1 columns 1 1;";
    private static final String LARGEST = "hall cards 3 rows 3 each 5 columns 9 9 9 9 9;";

    public static void main(String[] args) {
        promise1();
        promises2And3();
        promise4();
        promise5();
        promises6And7();
        promises8And9();
        promise10();
        promises11To13();
        promises14And15();
        promises16To18();
        promise19();
        promise20();
        promises21And22();
        promises23And24();
        promise25();
        promises26And27();
        promises28And29();
        promises30To32();
        jackpotsMissed();
        promise33();
        promises34And35();
        promises36To38();
        promises39And40();
        promise41();
        promise42();
        promise43();
        promise44();
        promises45And46();
        promises47And48();
        promise49();
        promise50();
        promise51();
        promises52And53();
        promises54And55();
        promise56();
        Check.end();
    }

    private static void due(String call, long got, long want) {
        Check.due(call, got, want);
    }

    private static void promise1() {
        BingoHall x = new BingoHall();
        due("1 NONE", BingoHall.NONE, -1);
        for (int what = 0; what <= 9; what++) {
            due("1 count " + what, x.count(what), 0);
        }
        due("1 numbers", x.numbers(), -2);
        due("1 call", x.call(0), -1);
        due("1 sold", x.sold(0), -1);
        due("1 first", x.first(0), -2);
        due("1 cell", x.cell(0, 0, 0, 0), -2);
        due("1 plan", x.plan(0, 0, 0), -2);
        due("1 write", x.write(0, 0, 0), -6);
        due("1 back", x.back(0), -6);
        x.row(0, 0, 0);
        due("1 layouts", x.layouts(0), -2);
        due("1 calls", x.calls(0), -2);
        due("1 judge", x.judge(0), -2);
        due("1 share", x.share(0, 0), -2);
        due("1 shape", x.shape(0, 0), -2);
        due("1 shaped", x.shaped(0, 0, 0), -2);
        due("1 chance", x.chance(0, 0, 0), -2);
        due("1 evenings", x.evenings(0, 1, 0, 0), -2);
        due("1 slow", x.slow(0, 1, 1, 0), -2);
        due("1 jackpot", x.jackpot(0), -2);
        due("1 race", x.race(0, 0), -2);
        due("1 mean", x.mean(1, 0), -2);
        due("1 book", x.book(0, 0), -2);
    }

    private static void promises2And3() {
        BingoHall x = new BingoHall();
        for (int i = 1; i <= 40; i++) {
            due("2 feed " + i, x.feed(0x20202020, 0x20202020, 0x20202020, 0x20202020, 0x20202020), 20 * i);
        }
        due("2 feed too much", x.feed(0, 0, 0, 0, 0), -1);
        due("2 stays", x.count(6), 800);
        due("3 end", x.end(801), -1);
        due("3 end below 0", x.end(-1), -1);
        due("3 end least", x.end(MIN), -1);
        due("3 stays", x.count(6), 800);
        due("3 end all", x.end(800), 800);
        due("3 end", x.end(781), 781);
        due("2 feed just too much", x.feed(0, 0, 0, 0, 0), -1);
        due("3 end more", x.end(782), -1);
        due("3 end", x.end(780), 780);
        due("2 feed just fits", x.feed(0, 0, 0, 0, 0), 800);
        due("3 end 0", x.end(0), 0);
        due("3 count", x.count(6), 0);

        // "hall cards 1 rows 1 each 2 columns 1 1;", by the highest byte first.
        due("2 feed", x.feed(0x68616c6c, 0x20636172, 0x64732031, 0x20726f77, 0x73203120), 20);
        due("2 feed", x.feed(0x65616368, 0x20322063, 0x6f6c756d, 0x6e732031, 0x20313bff), 40);
        due("3 end", x.end(39), 39);
        due("2 hall", x.hall(), 1);
        due("2 numbers", x.numbers(), 2);
        due("2 empty then", x.count(6), 0);
    }

    private static void promise4() {
        BingoHall x = new BingoHall();
        due("4 empty", x.hall(), 0);
        due("4 one", Check.read(x, TWO), 1);
        due("4 another", Check.read(x, FULL_EIGHT), 9);
        due("4 lines", x.count(5), 9);
        due("4 seed 1", x.call(0), 4);
        Check.put(x, 1, 5, 6);
        x.keep(2);
        Check.feed(x, EIGHT + "sold 5; caller 100000;");
        due("4 fault", x.hall(), -4);
        due("4 stays: lines", x.count(5), 9);
        due("4 stays: sold", x.sold(3), 7);
        due("4 stays: call", x.call(7), 7);
        due("4 tape", x.count(6), 0);
        due("4 two", Check.read(x, EIGHT + "prize row 5;"), 2);
        due("4 no sold", x.count(4), 0);
        due("4 no jackpot", x.count(8), 0);
        due("4 prize house", x.prize(2, 1), 0);
        due("4 slots stay", x.judge(1), 0);
        due("4 blanks", Check.read(x, " \n "), 0);
        due("4 none then", x.numbers(), -2);
        due("4 none then", x.call(0), -1);
        due("4 none then", x.count(0), 0);
        due("4 slots stay", x.count(9), 1);
        due("4 images stay", x.back(2), 0);
        due("4 images stay", x.count(4), 4);
    }

    private static void promise5() {
        BingoHall x = new BingoHall();
        due("5 new", x.fault(0), 0);
        due("5 new place", x.fault(1), -1);
        due("5 other", x.fault(2), -1);
        due("5 other", x.fault(-1), -1);
        due("5 hall", Check.read(x, "hall cards 4"), -4);
        due("5 fault", x.fault(0), 2);
        due("5 place", x.fault(1), 11);
        due("5 other", x.fault(2), -1);
        due("5 other", x.fault(MIN), -1);
        due("5 hall", Check.read(x, TWO), 1);
        due("5 fault", x.fault(0), 0);
        due("5 place", x.fault(1), -1);
        due("5 hall", Check.read(x, "?"), -4);
        due("5 fault", x.fault(0), 1);
        due("5 place", x.fault(1), 0);
        x.keep(0);
        x.back(0);
        due("5 stays by back", x.fault(0), 1);
    }

    private static void promises6And7() {
        BingoHall x = Check.hall(EIGHT);
        int[][] columns = {{1, 3}, {4, 3}, {7, 2}};
        for (int column = 0; column < 3; column++) {
            due("6 first", x.column(column, 0), columns[column][0]);
            due("6 many", x.column(column, 1), columns[column][1]);
        }
        due("6 column 3", x.column(3, 0), -2);
        due("6 column -1", x.column(-1, 0), -2);
        due("6 column max", x.column(MAX, 1), -2);
        due("6 what 2", x.column(0, 2), -2);
        due("6 what -1", x.column(0, -1), -2);
        due("6 no hall", new BingoHall().column(0, 0), -2);
        due("7 numbers", x.numbers(), 8);
        due("7 largest", Check.hall(LARGEST).numbers(), 45);
        due("7 no hall", new BingoHall().numbers(), -2);
        BingoHall y = Check.hall("hall cards 2 rows 3 each 3 columns 6 2 5 5;");
        due("6 first", y.column(1, 0), 7);
        due("6 first", y.column(2, 0), 9);
        due("6 first", y.column(3, 0), 14);
        due("6 many", y.column(3, 1), 5);
    }

    private static void promises8And9() {
        BingoHall x = Check.hall(EIGHT);
        due("8 plans", x.plans(), 2);
        int[][] plans = {{1, 2, 1, 2, 1, 1}, {2, 1, 1, 1, 2, 1}};
        for (int i = 0; i < 2; i++) {
            for (int at = 0; at < 6; at++) {
                due("9 plan " + i + " " + at, x.plan(i, at / 3, at % 3), plans[i][at]);
            }
        }
        due("9 not so many", x.plan(2, 0, 0), -1);
        due("9 not so many", x.plan(MAX, 1, 2), -1);
        due("9 not so many", x.plan(-1, 0, 0), -1);
        due("9 card", x.plan(0, 2, 0), -2);
        due("9 card ahead of NONE", x.plan(2, 2, 0), -2);
        due("9 card", x.plan(0, -1, 0), -2);
        due("9 column", x.plan(0, 0, 3), -2);
        due("9 column", x.plan(0, 0, -1), -2);
        due("8 no hall", new BingoHall().plans(), -2);
        due("9 no hall", new BingoHall().plan(0, 0, 0), -2);
        due("8 one", Check.hall(LARGEST).plans(), 1);
        due("9 all rows", Check.hall(LARGEST).plan(0, 2, 4), 3);
        due("8 one", Check.hall(TWO).plans(), 1);
    }

    private static void promise10() {
        BingoHall x = Check.hall(EIGHT);
        due("10 nothing", x.layouts(0), -6);
        Check.put(x, 0, 2, 1, 1);
        due("10 two", x.layouts(0), 2);
        Check.putCut(x, 0, 0, 1, 2, 1);
        due("10 two, of bytes", x.layouts(0), 2);
        Check.put(x, 0, 2, 2, 0);
        due("10 a COLUMN of none", x.layouts(0), 1);
        Check.put(x, 0, 1, 1, 1);
        due("10 too few", x.layouts(0), 0);
        Check.put(x, 0, 2, 2, 1);
        due("10 too many", x.layouts(0), 0);
        Check.put(x, 0, 3, 1, 0);
        due("10 more than rows", x.layouts(0), 0);
        Check.put(x, 0, -1, 2, 3);
        due("10 below 0", x.layouts(0), 0);
        Check.put(x, 0, 4294967298L, 1, 1);
        due("10 far more", x.layouts(0), 0);
        Check.put(x, 0, Long.MAX_VALUE, Long.MIN_VALUE, 5);
        due("10 far more", x.layouts(0), 0);
        Check.put(x, 0, 2, 2);
        due("10 not as many", x.layouts(0), -7);
        Check.put(x, 0, 1, 1, 1, 1);
        due("10 not as many", x.layouts(0), -7);
        x.row(0, 0, 0);
        due("10 none", x.layouts(0), -7);
        due("10 slot", x.layouts(4), -2);
        due("10 slot", x.layouts(-1), -2);
        BingoHall y = new BingoHall();
        due("10 no hall ahead of nothing", y.layouts(0), -2);
        BingoHall z = Check.hall("hall cards 1 rows 3 each 2 columns 2 2 1 1;");
        Check.put(z, 3, 2, 2, 1, 1);
        // Both of rows 0 .. 2 but one of each: pairs by which two of three rows share sets.
        due("10 ninety less", z.layouts(3), 15);
    }

    private static void promises11To13() {
        BingoHall x = Check.hall(EIGHT);
        due("11 made 0", x.made(0), 0);
        due("11 made 2", x.made(2), 1);
        due("11 made 7", x.made(7), 0);
        due("11 made 9999", x.made(9999), 1);
        due("11 made 10000", x.made(10000), -2);
        due("11 made -1", x.made(-1), -2);
        due("11 no hall", new BingoHall().made(0), -2);
        int[][] strips = {{0, 4, 7, 2, 6, 0, 1, 0, 8, 3, 5, 0}, {1, 6, 0, 3, 0, 8, 0, 4, 7, 2, 5, 0}};
        for (int at = 0; at < 12; at++) {
            due("12 cell 0 " + at, x.cell(0, at / 6, at / 3 % 2, at % 3), strips[0][at]);
            due("12 cell 1 " + at, x.cell(1, at / 6, at / 3 % 2, at % 3), strips[0][at]);
            due("12 cell 9999 " + at, x.cell(9999, at / 6, at / 3 % 2, at % 3), strips[1][at]);
        }
        due("12 serial", x.cell(10000, 0, 0, 0), -2);
        due("12 serial", x.cell(-1, 0, 0, 0), -2);
        due("12 card", x.cell(0, 2, 0, 0), -2);
        due("12 card", x.cell(0, -1, 0, 0), -2);
        due("12 row", x.cell(0, 0, 2, 0), -2);
        due("12 row", x.cell(0, 0, -1, 0), -2);
        due("12 column", x.cell(0, 0, 0, 3), -2);
        due("12 column", x.cell(0, 0, 0, -1), -2);
        due("12 no hall", new BingoHall().cell(0, 0, 0, 0), -2);
        int[] where = {100, 10, 110, 1, 111, 11, 2, 102};
        for (int number = 1; number <= 8; number++) {
            due("13 where " + number, x.where(0, number), where[number - 1]);
        }
        due("13 number", x.where(0, 0), -2);
        due("13 number", x.where(0, 9), -2);
        due("13 number", x.where(0, MIN), -2);
        due("13 serial", x.where(10000, 1), -2);
        due("13 serial", x.where(-1, 1), -2);
        due("13 no hall", new BingoHall().where(0, 1), -2);
        due("12 by the new HALL", Check.hall(CROSS).cell(2, 0, 0, 0), 1);
        due("12 by the new HALL", Check.hall(CROSS).cell(4, 0, 0, 0), 0);
    }

    private static void promises14And15() {
        BingoHall x = Check.hall(EIGHT);
        due("14 same", x.same(0, 1), 1);
        due("14 itself", x.same(9999, 9999), 1);
        due("14 not", x.same(1, 2), 0);
        due("14 not", x.same(2, 3), 0);
        due("14 serial", x.same(10000, 0), -2);
        due("14 serial", x.same(0, 10000), -2);
        due("14 serial", x.same(-1, 0), -2);
        due("14 serial", x.same(0, -1), -2);
        due("14 no hall", new BingoHall().same(0, 0), -2);
        due("15 itself", x.alike(0, 0, 0, 0), 4);
        due("15 the other card", x.alike(0, 0, 0, 1), 0);
        due("15 four alone", x.alike(0, 0, 2, 0), 1);
        due("15 three", x.alike(0, 0, 2, 1), 3);
        due("15 three", x.alike(2, 1, 0, 0), 3);
        due("15 one, eight, three", x.alike(0, 1, 2, 0), 3);
        due("15 six and seven", x.alike(0, 0, 3, 1), 2);
        due("15 card", x.alike(0, 2, 2, 0), -2);
        due("15 card", x.alike(0, 0, 2, 2), -2);
        due("15 card", x.alike(0, -1, 2, 0), -2);
        due("15 card", x.alike(0, 0, 2, -1), -2);
        due("15 serial", x.alike(10000, 0, 2, 0), -2);
        due("15 serial", x.alike(0, 0, -1, 0), -2);
        due("15 no hall", new BingoHall().alike(0, 0, 0, 0), -2);
        due("15 all", Check.hall("hall cards 1 rows 3 each 5 columns 3 3 3 3 3;").alike(5, 0, 6, 0), 15);
    }

    private static void promises16To18() {
        BingoHall x = Check.hall(LARGEST);
        due("17 none", x.unsell(), 0);
        for (int i = 0; i < 8; i++) {
            due("16 sell " + i, x.sell(9999 - i), i + 1);
            due("18 sold " + i, x.sold(i), 9999 - i);
            due("18 sold " + (i + 1), x.sold(i + 1), -1);
        }
        due("16 full", x.sell(5), -3);
        due("16 full ahead of the same", x.sell(9999), -3);
        due("16 no serial ahead of full", x.sell(10000), -2);
        due("16 no serial ahead of full", x.sell(-1), -2);
        due("18 sold -1", x.sold(-1), -1);
        due("18 sold max", x.sold(MAX), -1);
        due("17 unsell", x.unsell(), 1);
        due("18 sold 7", x.sold(7), -1);
        due("16 the same", x.sell(9999), -5);
        due("16 again", x.sell(5), 8);
        due("18 sold 7", x.sold(7), 5);
        due("16 no hall", new BingoHall().sell(0), -2);
        due("17 no hall", new BingoHall().unsell(), -2);
        due("18 no hall", new BingoHall().sold(0), -1);

        BingoHall y = Check.hall(CROSS);
        due("16 sell 4", y.sell(4), 1);
        due("16 the same STRIP", y.sell(0), -5);
        due("16 the same STRIP", y.sell(5), -5);
        due("16 sell 3", y.sell(3), 2);
        due("16 all there are", y.sell(2), -5);
        due("17 unsell", y.unsell(), 1);
        due("17 unsell", y.unsell(), 1);
        due("17 none", y.unsell(), 0);
        due("16 sell 0", y.sell(0), 1);
        due("18 sold", y.sold(0), 0);
        BingoHall z = Check.hall(FULL_EIGHT);
        due("16 as told", z.sell(1), -5);
        due("18 as told", z.sold(2), 3);
        due("16 more", z.sell(9999), 5);
        due("17 as told", z.unsell(), 1);
        due("17 as told", z.unsell(), 1);
        due("18 as told", z.sold(3), -1);
    }

    private static void promise19() {
        BingoHall x = Check.hall(EIGHT);
        dueCalls("19 of 1", x, 4, 1, 6, 3, 5, 2, 8, 7);
        due("19 caller", x.caller(0), 0);
        dueCalls("19 of 0", x, 7, 1, 8, 3, 6, 2, 4, 5);
        due("19 caller", x.caller(2000000000), 0);
        dueCalls("19 of the last", x, 2, 7, 1, 3, 4, 5, 8, 6);
        due("19 too great", x.caller(2000000001), -2);
        due("19 too small", x.caller(-1), -2);
        dueCalls("19 stays", x, 2, 7, 1, 3, 4, 5, 8, 6);
        due("19 called", x.called(6), 8);
        due("19 caller", x.caller(99999), 0);
        dueCalls("19 of 99999", x, 1, 5, 7, 8, 4, 2, 3, 6);
        due("19 called", x.called(6), 8);
        due("19 called", x.called(1), 1);
        due("19 no hall", new BingoHall().caller(1), -2);
        dueCalls("19 as told", Check.hall(EIGHT + "caller 2;"), 1, 6, 3, 7, 4, 8, 5, 2);
        dueCalls("19 a later one", Check.hall(EIGHT + "caller 2; caller 0;"), 7, 1, 8, 3, 6, 2, 4, 5);
    }

    private static void dueCalls(String call, BingoHall x, int... numbers) {
        for (int i = 0; i < numbers.length; i++) {
            due(call + " call " + i, x.call(i), numbers[i]);
        }
        due(call + " behind", x.call(numbers.length), -1);
    }

    private static void promise20() {
        BingoHall x = Check.hall(EIGHT + "sold 0;");
        due("20 nothing", x.calls(2), -6);
        Check.put(x, 2, 8, 7, 6, 5, 4, 3, 2, 1);
        due("20 calls", x.calls(2), 0);
        dueCalls("20", x, 8, 7, 6, 5, 4, 3, 2, 1);
        due("20 called", x.called(8), 1);
        due("20 first", x.first(0), 5);
        x.write(2, 0, 7);
        due("20 twice one", x.calls(2), -2);
        x.write(2, 0, 9);
        due("20 above", x.calls(2), -2);
        x.write(2, 0, 0);
        due("20 zero", x.calls(2), -2);
        x.write(2, 0, -8);
        due("20 below", x.calls(2), -2);
        x.write(2, 0, 8 + (1L << 32));
        due("20 far above", x.calls(2), -2);
        x.write(2, 0, 8 + 64);
        due("20 above by 64", x.calls(2), -2);
        dueCalls("20 stays", x, 8, 7, 6, 5, 4, 3, 2, 1);
        Check.put(x, 2, 1, 2, 3, 4, 5, 6, 7);
        due("20 too few", x.calls(2), -2);
        Check.put(x, 2, 1, 2, 3, 4, 5, 6, 7, 8, 8);
        due("20 too many", x.calls(2), -2);
        x.row(2, 0, 0);
        due("20 none", x.calls(2), -2);
        due("20 slot", x.calls(4), -2);
        due("20 slot", x.calls(-1), -2);
        due("20 no hall ahead of nothing", new BingoHall().calls(0), -2);
        Check.putCut(x, 0, 0, 5, 1, 2, 3, 4, 8, 7, 6);
        due("20 of bytes", x.calls(0), 0);
        dueCalls("20 of bytes", x, 5, 1, 2, 3, 4, 8, 7, 6);
    }

    private static void promises21And22() {
        BingoHall x = Check.hall(EIGHT);
        due("21 call 0", x.call(0), 4);
        due("21 call 7", x.call(7), 7);
        due("21 call 8", x.call(8), -1);
        due("21 call -1", x.call(-1), -1);
        due("21 call max", x.call(MAX), -1);
        due("21 no hall", new BingoHall().call(0), -1);
        int[] turns = {2, 6, 4, 1, 5, 3, 8, 7};
        for (int number = 1; number <= 8; number++) {
            due("22 called " + number, x.called(number), turns[number - 1]);
        }
        due("22 called 0", x.called(0), -2);
        due("22 called 9", x.called(9), -2);
        due("22 called -1", x.called(-1), -2);
        due("22 no hall", new BingoHall().called(1), -2);
    }

    private static void promises23And24() {
        BingoHall x = Check.hall(EIGHT);
        // CARD 0: 4 7 behind 1, 8; 2 6 behind 6, 3. CARD 1: 1 8 behind 2, 7; 3 5 behind 4, 5.
        int[][] daubs = {{0, 1, 1, 2, 2, 2, 3, 3, 4}, {0, 0, 1, 1, 2, 3, 3, 4, 4}};
        int[][] full = {{0, 0, 0, 0, 0, 0, 1, 1, 2}, {0, 0, 0, 0, 0, 1, 1, 2, 2}};
        for (int card = 0; card < 2; card++) {
            for (int n = 0; n <= 8; n++) {
                due("23 daubs " + card + " " + n, x.daubs(0, card, n), daubs[card][n]);
                due("24 full " + card + " " + n, x.full(0, card, n), full[card][n]);
            }
        }
        int[][] wrong = {{10000, 0, 0}, {-1, 0, 0}, {0, 2, 0}, {0, -1, 0}, {0, 0, 9}, {0, 0, -1}};
        for (int[] it : wrong) {
            due("23 wrong", x.daubs(it[0], it[1], it[2]), -2);
            due("24 wrong", x.full(it[0], it[1], it[2]), -2);
        }
        due("23 no hall", new BingoHall().daubs(0, 0, 0), -2);
        due("24 no hall", new BingoHall().full(0, 0, 0), -2);
    }

    private static void promise25() {
        BingoHall x = Check.hall(EIGHT);
        int[][] lacks = {{2, 1, 1, 1, 1, 1, 0, 0, 0}, {4, 3, 3, 2, 2, 2, 1, 1, 0}, {4, 3, 3, 2, 2, 2, 1, 1, 0}};
        for (int kind = 0; kind < 3; kind++) {
            for (int n = 0; n <= 8; n++) {
                due("25 lacks " + kind + " " + n, x.lacks(0, 0, kind, n), lacks[kind][n]);
            }
        }
        due("25 kind", x.lacks(0, 0, 3, 0), -2);
        due("25 kind", x.lacks(0, 0, -1, 0), -2);
        due("25 n", x.lacks(0, 0, 0, 9), -2);
        due("25 n", x.lacks(0, 0, 0, -1), -2);
        due("25 card", x.lacks(0, 2, 0, 0), -2);
        due("25 serial", x.lacks(10000, 0, 0, 0), -2);
        due("25 no hall", new BingoHall().lacks(0, 0, 0, 0), -2);
        BingoHall y = Check.hall(TWO);
        due("25 two of one row", y.lacks(0, 0, 1, 0), -1);
        due("25 two of one row", y.lacks(0, 0, 1, 2), -1);
        due("25 n ahead of never", y.lacks(0, 0, 1, 3), -2);
        due("25 row", y.lacks(0, 0, 0, 0), 2);
        due("25 house", y.lacks(0, 0, 2, 1), 1);
        BingoHall z = Check.hall("hall cards 1 rows 3 each 2 columns 3 3;");
        // 1 4 / 2 5 / 3 6, by CALLS 1 2 3 4 5 6: each row lacks one behind three.
        Check.put(z, 0, 1, 2, 3, 4, 5, 6);
        z.calls(0);
        due("25 three rows, row", z.lacks(0, 0, 0, 3), 1);
        due("25 three rows, two", z.lacks(0, 0, 1, 3), 2);
        due("25 three rows, house", z.lacks(0, 0, 2, 3), 3);
        due("25 three rows, two", z.lacks(0, 0, 1, 5), 0);
        due("25 three rows, house", z.lacks(0, 0, 2, 5), 1);
        Check.put(z, 0, 3, 6, 1, 2, 4, 5);
        z.calls(0);
        due("25 not the first two rows", z.lacks(0, 0, 1, 3), 1);
    }

    private static void promises26And27() {
        BingoHall x = Check.hall(EIGHT);
        due("26 row", x.done(0, 0, 0), 6);
        due("26 two", x.done(0, 0, 1), 8);
        due("26 house", x.done(0, 0, 2), 8);
        due("26 row", x.done(0, 1, 0), 5);
        due("26 two", x.done(0, 1, 1), 7);
        due("26 house", x.done(0, 1, 2), 7);
        due("26 kind", x.done(0, 0, 3), -2);
        due("26 kind", x.done(0, 0, -1), -2);
        due("26 card", x.done(0, 2, 0), -2);
        due("26 card", x.done(0, -1, 0), -2);
        due("26 serial", x.done(10000, 0, 0), -2);
        due("26 serial", x.done(-1, 0, 0), -2);
        due("26 no hall", new BingoHall().done(0, 0, 0), -2);
        for (int n = 1; n <= 8; n++) {
            due("27 claim row " + n, x.claim(0, 0, 0, n), n < 6 ? 1 : n == 6 ? 0 : 2);
            due("27 claim two " + n, x.claim(0, 0, 1, n), n < 8 ? 1 : 0);
            due("27 claim house " + n, x.claim(0, 1, 2, n), n < 7 ? 1 : n == 7 ? 0 : 2);
        }
        due("27 n 0", x.claim(0, 0, 0, 0), -2);
        due("27 n 9", x.claim(0, 0, 0, 9), -2);
        due("27 n -1", x.claim(0, 0, 0, -1), -2);
        due("27 kind", x.claim(0, 0, 3, 1), -2);
        due("27 kind", x.claim(0, 0, -1, 1), -2);
        due("27 card", x.claim(0, 2, 0, 1), -2);
        due("27 serial", x.claim(10000, 0, 0, 1), -2);
        due("27 no hall", new BingoHall().claim(0, 0, 0, 1), -2);
        BingoHall y = Check.hall(TWO);
        due("26 two of one row", y.done(0, 0, 1), -1);
        due("26 row", y.done(0, 0, 0), 2);
        due("27 two of one row", y.claim(0, 0, 1, 1), 1);
        due("27 two of one row", y.claim(0, 0, 1, 2), 1);
        BingoHall z = Check.hall("hall cards 1 rows 3 each 2 columns 3 3;");
        Check.put(z, 0, 3, 6, 1, 2, 4, 5);
        z.calls(0);
        due("26 three rows, row", z.done(0, 0, 0), 2);
        due("26 three rows, two", z.done(0, 0, 1), 5);
        due("26 three rows, house", z.done(0, 0, 2), 6);
    }

    private static void promises28And29() {
        BingoHall x = Check.hall(FULL_EIGHT);
        due("28 row", x.first(0), 2);
        due("28 two", x.first(1), 7);
        due("28 house", x.first(2), 7);
        due("28 kind", x.first(3), -2);
        due("28 kind", x.first(-1), -2);
        due("29 row", x.winner(0, -1), 2);
        due("29 row 0", x.winner(0, 0), 10);
        due("29 row 1", x.winner(0, 1), 30);
        due("29 row 2", x.winner(0, 2), -1);
        int[] houses = {1, 10, 20, 30, -1};
        due("29 house", x.winner(2, -1), 4);
        for (int i = 0; i < 5; i++) {
            due("29 house " + i, x.winner(2, i), houses[i]);
        }
        due("29 max", x.winner(0, MAX), -1);
        due("29 less", x.winner(0, -2), -2);
        due("29 less", x.winner(0, MIN), -2);
        due("29 kind", x.winner(3, -1), -2);
        due("29 kind", x.winner(-1, 0), -2);
        due("28 no hall", new BingoHall().first(0), -2);
        due("29 no hall", new BingoHall().winner(0, -1), -2);
        BingoHall y = Check.hall(EIGHT);
        due("28 none is sold", y.first(0), -1);
        due("29 none is sold", y.winner(0, -1), 0);
        due("29 none is sold", y.winner(0, 0), -1);
        BingoHall z = Check.hall(TWO + "sold 3;");
        due("28 none can", z.first(1), -1);
        due("29 none can", z.winner(1, -1), 0);
        due("29 none can", z.winner(1, 0), -1);
        due("28 one", z.first(0), 2);
        due("29 one", z.winner(0, 0), 0);
    }

    private static void promises30To32() {
        BingoHall x = Check.hall(FULL_EIGHT);
        int[][] prizes = {{50, 1}, {2, 2}, {250, 0}};
        for (int kind = 0; kind < 3; kind++) {
            due("30 each", x.prize(kind, 0), prizes[kind][0]);
            due("30 left", x.prize(kind, 1), prizes[kind][1]);
        }
        due("30 kind", x.prize(3, 0), -2);
        due("30 kind", x.prize(-1, 0), -2);
        due("30 what", x.prize(0, 2), -2);
        due("30 what", x.prize(0, -1), -2);
        due("30 no hall", new BingoHall().prize(0, 0), -2);
        due("31 won", x.jackpot(0), 996);
        due("31 missed", x.jackpot(1), 0);
        due("31 what", x.jackpot(2), -2);
        due("31 what", x.jackpot(-1), -2);
        due("31 no hall", new BingoHall().jackpot(0), -2);
        int[] wins = {501, 551, 501, 551};
        for (int i = 0; i < 4; i++) {
            due("32 wins " + i, x.wins(i), wins[i]);
        }
        due("32 none such", x.wins(4), -2);
        due("32 none such", x.wins(-1), -2);
        due("32 none such", x.wins(MAX), -2);
        due("32 no hall", new BingoHall().wins(0), -2);
        while (x.unsell() == 1) {
            due("32 taken back", x.wins(x.count(4)), -2);
        }
        due("30 no winner", x.prize(0, 0), 0);
        due("30 no winner", x.prize(0, 1), 101);
        due("31 no house", x.jackpot(0), 0);
        due("31 no house", x.jackpot(1), -1);
        BingoHall y = Check.hall(TWO + "prize two 77; prize row 3; prize row 9; sold 1;");
        due("30 none can", y.prize(1, 0), 0);
        due("30 none can", y.prize(1, 1), 77);
        due("30 a later one strikes", y.prize(0, 0), 9);
        due("32 one row", y.wins(0), 9);
        due("30 without a line", y.prize(2, 0), 0);
        due("30 without a line", y.prize(2, 1), 0);
        due("31 without a line", y.jackpot(0), 0);
        due("31 without a line", y.jackpot(1), -1);
    }

    private static void jackpotsMissed() {
        String told = EIGHT + "prize house 100; sold 0; sold 2; sold 3; jackpot 1000 by ";
        BingoHall x = Check.hall(told + "6;");
        due("31 not won", x.jackpot(0), 0);
        due("31 missed", x.jackpot(1), 1);
        due("32 without it", x.wins(0), 33);
        BingoHall y = Check.hall(told + "7;");
        due("31 won", y.jackpot(0), 999);
        due("31 won", y.jackpot(1), 0);
        due("32 with it", y.wins(0), 366);
        BingoHall z = Check.hall(told + "8;");
        due("31 won", z.jackpot(0), 999);
        due("31 ahead", z.jackpot(1), 0);
        BingoHall a = Check.hall(told + "1;");
        due("31 missed", a.jackpot(1), 6);
        BingoHall b = Check.hall(told + "8; jackpot 0 by 2;");
        due("31 a later one strikes", b.jackpot(1), 5);
        due("31 nothing in it", b.jackpot(0), 0);
        // Only the house brings it, and of serial 2 CARD 0 alone.
        BingoHall c = Check.hall(EIGHT + "sold 2; jackpot 5 by 7;");
        due("31 one", c.jackpot(0), 5);
        due("32 one", c.wins(0), 5);
        // Both CARDS of one STRIP: 1 8 / 3 5 and 4 7 / 2 6 can't end together, rows can't either.
        BingoHall d = Check.hall(TWO + "jackpot 7 by 1; sold 0; prize row 5; prize house 6;");
        due("31 missed by one", d.jackpot(1), 1);
        due("32 row and house", d.wins(0), 11);
    }

    private static void promise33() {
        BingoHall x = Check.hall(CROSS);
        due("33 itself", x.book(0, 0), 0);
        due("33 the other", x.book(0, 1), 2);
        due("33 no more", x.book(0, 2), -1);
        due("33 itself", x.book(1, 0), 1);
        due("33 itself", x.book(3, 0), 3);
        due("33 the other", x.book(3, 1), 4);
        due("33 below", x.book(0, -1), -1);
        due("33 max", x.book(0, MAX), -1);
        due("33 the last", x.book(9999, 0), 9999);
        due("33 behind the last", x.book(9999, 1), -1);
        due("33 serial", x.book(10000, 0), -2);
        due("33 serial", x.book(-1, 0), -2);
        due("33 no hall", new BingoHall().book(0, 0), -2);
        BingoHall y = Check.hall(LARGEST);
        due("33 the 40th", y.book(100, 39), 139);
        due("33 no 41st", y.book(100, 40), -1);
        due("33 to the last", y.book(9970, 29), 9999);
        due("33 to the last", y.book(9970, 30), -1);
        BingoHall z = Check.hall(TWO);
        due("33 one alone", z.book(50, 0), 50);
        due("33 one alone", z.book(50, 1), -1);
        due("33 of EIGHT", Check.hall(EIGHT).book(0, 1), 2);
    }

    private static void promises34And35() {
        BingoHall x = Check.hall(EIGHT + "sold 0; sold 2; sold 3; sold 7;");
        due("34 nothing", x.shaped(0, 0, 0), -6);
        due("35 nothing", x.shape(0, 0), -6);
        Check.put(x, 0, 0, 11);
        due("34 none and 6", x.shaped(0, 0, 0), 3);
        due("34 1 and 5", x.shaped(0, 1, 0), 5);
        // By 0 and 11: CARDS have 6; 1 5; 1; 6; 2; 1 6; 1 5; 6: the second has 1 alone, behind 2.
        due("35 first", x.shape(0, 0), 2);
        due("35 who", x.shape(0, 1), 10);
        Check.put(x, 0, 1, 1, 1);
        due("34 twice one", x.shaped(0, 0, 0), 1);
        due("34 none there", x.shaped(0, 1, 0), 0);
        due("35 none there is first", x.shape(0, 0), 0);
        due("35 none there is first", x.shape(0, 1), 1);
        x.row(0, 2, 0);
        due("34 none", x.shaped(0, 0, 0), 0);
        due("35 none", x.shape(0, 0), 0);
        due("35 the first of several", x.shape(0, 1), 0);
        Check.put(x, 0, 0, 1, 2, 10, 11, 12);
        due("34 all", x.shaped(0, 0, 0), 8);
        due("34 all", x.shaped(0, 1, 0), 7);
        due("35 all", x.shape(0, 0), 7);
        due("35 the first of several", x.shape(0, 1), 1);
        due("35 what", x.shape(0, 2), -2);
        due("35 what", x.shape(0, -1), -2);
        for (long wrong : new long[] {3, 9, 13, 20, 21, 100, -1, -10, 1L << 32, Long.MIN_VALUE, Long.MAX_VALUE}) {
            x.write(0, 5, wrong);
            due("34 no place " + wrong, x.shaped(0, 0, 0), -2);
            due("35 no place " + wrong, x.shape(0, 0), -2);
        }
        due("34 serial ahead of nothing", x.shaped(10000, 0, 1), -2);
        due("34 card ahead of nothing", x.shaped(0, 2, 1), -2);
        due("34 slot", x.shaped(0, 0, 4), -2);
        due("34 slot", x.shaped(0, 0, -1), -2);
        due("35 slot", x.shape(4, 0), -2);
        due("35 what ahead of nothing", x.shape(1, 2), -2);
        BingoHall y = Check.hall(EIGHT);
        Check.put(y, 0, 0);
        due("35 none is sold", y.shape(0, 0), -1);
        due("35 none is sold", y.shape(0, 1), -1);
        y.write(0, 0, 3);
        due("35 no place ahead of none sold", y.shape(0, 0), -2);
    }

    private static void promises36To38() {
        BingoHall x = Check.hall(EIGHT);
        due("36 corners", x.corners(0, 0), 8);
        due("36 corners", x.corners(0, 1), 7);
        due("36 card", x.corners(0, 2), -2);
        due("36 card", x.corners(0, -1), -2);
        due("36 serial", x.corners(10000, 0), -2);
        due("36 serial", x.corners(-1, 0), -2);
        due("36 no hall", new BingoHall().corners(0, 0), -2);
        due("37 filled", x.filled(0, 0, 0), 6);
        due("37 filled", x.filled(0, 0, 1), 3);
        due("37 filled", x.filled(0, 0, 2), 8);
        due("37 filled", x.filled(0, 1, 0), 4);
        due("37 column", x.filled(0, 0, 3), -2);
        due("37 column", x.filled(0, 0, -1), -2);
        due("37 card", x.filled(0, 2, 0), -2);
        due("37 serial", x.filled(10000, 0, 0), -2);
        due("37 no hall", new BingoHall().filled(0, 0, 0), -2);
        due("38 last", x.last(0, 0), 7);
        due("38 last", x.last(0, 1), 8);
        due("38 last", x.last(3, 1), 7);
        due("38 card", x.last(0, 2), -2);
        due("38 card", x.last(0, -1), -2);
        due("38 serial", x.last(10000, 0), -2);
        due("38 no hall", new BingoHall().last(0, 0), -2);
        BingoHall y = Check.hall("hall cards 1 rows 3 each 3 columns 3 3 3;");
        // 1 4 7 / 2 5 8 / 3 6 9: corners 1 7 3 9; the row between and 4, 6 don't count.
        Check.put(y, 0, 9, 7, 3, 1, 4, 2, 5, 6, 8);
        y.calls(0);
        due("36 four of nine", y.corners(0, 0), 4);
        due("38 last", y.last(0, 0), 8);
        due("37 filled", y.filled(0, 0, 1), 8);
        Check.put(y, 0, 9, 7, 3, 8, 4, 2, 5, 6, 1);
        y.calls(0);
        due("36 one last", y.corners(0, 0), 9);
        BingoHall z = Check.hall("hall cards 1 rows 1 each 3 columns 1 1 1;");
        Check.put(z, 0, 3, 1, 2);
        z.calls(0);
        due("36 of one row", z.corners(0, 0), 2);
        BingoHall a = Check.hall(CROSS + "caller 2;");
        due("36 of one NUMBER a row", a.corners(0, 0), 2);
    }

    private static void promises39And40() {
        BingoHall x = Check.hall(FULL_EIGHT);
        // Rows of serials 0, 2, 3, 7 by their turns: 1 8, 3 6; 2 7, 4 5 | 1 2, 4 7; 5 8, 3 6
        // | 1 6, 4 7; 2 5, 3 8 | 1 2, 5 7; 6 8, 3 4.
        due("39 row by 0", x.sweat(0, 0), 0);
        due("39 row by 1", x.sweat(0, 1), 4);
        due("39 row by 2", x.sweat(0, 2), 4);
        due("39 row by 8", x.sweat(0, 8), 0);
        due("39 house by 6", x.sweat(2, 6), 8);
        due("39 house by 7", x.sweat(2, 7), 4);
        due("39 two by 8", x.sweat(1, 8), 0);
        due("40 row by 0", x.nearest(0, 0), 2);
        due("40 row by 1", x.nearest(0, 1), 1);
        due("40 row by 2", x.nearest(0, 2), 0);
        due("40 house by 0", x.nearest(2, 0), 4);
        due("40 house by 6", x.nearest(2, 6), 1);
        due("40 house by 7", x.nearest(2, 7), 0);
        int[][] wrong = {{3, 0}, {-1, 0}, {0, 9}, {0, -1}, {MAX, MAX}};
        for (int[] it : wrong) {
            due("39 wrong", x.sweat(it[0], it[1]), -2);
            due("40 wrong", x.nearest(it[0], it[1]), -2);
        }
        due("39 no hall", new BingoHall().sweat(0, 0), -2);
        due("40 no hall", new BingoHall().nearest(0, 0), -2);
        BingoHall y = Check.hall(EIGHT);
        due("39 none is sold", y.sweat(0, 0), 0);
        due("40 none is sold", y.nearest(0, 0), -1);
        due("40 n ahead of none sold", y.nearest(0, 9), -2);
        BingoHall z = Check.hall(TWO + "sold 0;");
        due("39 never can", z.sweat(1, 1), 0);
        due("40 never can", z.nearest(1, 1), -1);
        due("39 one", z.sweat(0, 1), 1);
    }

    private static void promise41() {
        BingoHall x = Check.hall(FULL_EIGHT);
        // First rows of the four: 5, 2, 5, 2; first houses: 7 each.
        due("41 one by one", x.slow(0, 1, 1, 0), 5);
        due("41 one, quick", x.slow(0, 1, 8, 0), 5);
        due("41 two at once", x.slow(0, 2, 2, 0), 2);
        due("41 more than he needs", x.slow(0, 4, 5, 0), 2);
        // Of two STRIPS, one daub a time: the daub 4 of place 1 for CALL 2.
        due("41 half as quick", x.slow(0, 2, 1, 0), 4);
        due("41 the other way", x.slow(1, 2, 1, 0), 3);
        due("41 four, one", x.slow(0, 4, 1, 0), 6);
        due("41 four, three", x.slow(0, 4, 3, 0), 2);
        due("41 four, two", x.slow(0, 4, 2, 0), 3);
        // House behind 7 of the first: 6 times 4 daubs ahead, behind the last CALL.
        due("41 behind the last CALL", x.slow(0, 4, 1, 2), 25);
        due("41 behind the last CALL", x.slow(0, 4, 2, 2), 13);
        due("41 one house", x.slow(3, 1, 1, 2), 7);
        due("41 none such", x.slow(0, 5, 1, 0), -2);
        due("41 none such", x.slow(4, 1, 1, 0), -2);
        due("41 none such", x.slow(3, 2, 1, 0), -2);
        due("41 first", x.slow(-1, 1, 1, 0), -2);
        due("41 first", x.slow(MAX, 8, 1, 0), -2);
        due("41 first", x.slow(MIN, 8, 1, 0), -2);
        due("41 n", x.slow(0, 0, 1, 0), -2);
        due("41 n", x.slow(0, 9, 1, 0), -2);
        due("41 m", x.slow(0, 1, 0, 0), -2);
        due("41 m", x.slow(0, 1, 9, 0), -2);
        due("41 kind", x.slow(0, 1, 1, 3), -2);
        due("41 kind", x.slow(0, 1, 1, -1), -2);
        due("41 no hall", new BingoHall().slow(0, 1, 1, 0), -2);
        BingoHall y = Check.hall(TWO + "sold 0;");
        due("41 never can", y.slow(0, 1, 1, 1), -1);
        due("41 none such ahead of never", y.slow(0, 2, 1, 1), -2);
    }

    private static void promise42() {
        BingoHall x = Check.hall(FULL_EIGHT);
        int[] rows = {1, 3, 0, 2, -1};
        int[] houses = {0, 1, 2, 3, -1};
        for (int i = 0; i < 5; i++) {
            due("42 row " + i, x.race(0, i), rows[i]);
            due("42 house " + i, x.race(2, i), houses[i]);
        }
        due("42 below", x.race(0, -1), -1);
        due("42 max", x.race(0, MAX), -1);
        due("42 kind", x.race(3, 0), -2);
        due("42 kind", x.race(-1, 0), -2);
        due("42 no hall", new BingoHall().race(0, 0), -2);
        due("42 none is sold", Check.hall(EIGHT).race(0, 0), -1);
        due("42 never can", Check.hall(TWO + "sold 0;").race(1, 0), -1);
    }

    private static void promise43() {
        BingoHall x = Check.hall(FULL_EIGHT);
        due("43 nothing", x.share(0, 0), -6);
        Check.put(x, 0, 1, 2);
        due("43 first", x.share(0, 0), 702);
        due("43 second", x.share(0, 1), 1402);
        due("43 no buyer", x.share(0, 2), -1);
        due("43 no buyer", x.share(0, -1), -1);
        due("43 no buyer", x.share(0, MAX), -1);
        Check.put(x, 0, 9999);
        due("43 alone", x.share(0, 0), 2104);
        Check.put(x, 0, 1);
        due("43 alone, by one", x.share(0, 0), 2104);
        due("43 alone, no second", x.share(0, 1), -1);
        Check.put(x, 0, 1, 9999, 1, 1, 1, 1, 1, 1);
        due("43 eight, first", x.share(0, 0), 2);
        due("43 eight, second", x.share(0, 1), 2102);
        due("43 eight, last", x.share(0, 7), 0);
        x.write(0, 7, 0);
        due("43 paid nothing", x.share(0, 0), -2);
        due("43 paid nothing, ahead of no buyer", x.share(0, 8), -2);
        x.write(0, 7, 10000);
        due("43 paid too much", x.share(0, 0), -2);
        x.write(0, 7, -1);
        due("43 paid less", x.share(0, 0), -2);
        x.write(0, 7, 1 + (1L << 32));
        due("43 paid far too much", x.share(0, 0), -2);
        Check.put(x, 0, 1, 1, 1, 1, 1, 1, 1, 1, 1);
        due("43 nine", x.share(0, 0), -2);
        x.row(0, 3, 0);
        due("43 none", x.share(0, 0), -2);
        Check.putCut(x, 0, 0, 200);
        due("43 cut to a byte", x.share(0, 0), -2);
        due("43 slot", x.share(4, 0), -2);
        due("43 slot", x.share(-1, 0), -2);
        due("43 no hall ahead of nothing", new BingoHall().share(0, 0), -2);
        BingoHall y = Check.hall(EIGHT);
        Check.put(y, 1, 5, 5);
        due("43 none is sold", y.share(1, 0), 0);
        due("43 none is sold", y.share(1, 1), 0);
    }

    private static void promise44() {
        BingoHall x = Check.hall(EIGHT);
        // Of 28 pairs two are rows of a CARD; of 70 fours one is its house, 29 have a row.
        fraction("44 row by 0", x.chance(0, 0, 0), x.chance(0, 0, 1), 0, 1);
        fraction("44 row by 1", x.chance(0, 1, 0), x.chance(0, 1, 1), 0, 1);
        fraction("44 row by 2", x.chance(0, 2, 0), x.chance(0, 2, 1), 1, 14);
        fraction("44 row by 4", x.chance(0, 4, 0), x.chance(0, 4, 1), 29, 70);
        fraction("44 row by 8", x.chance(0, 8, 0), x.chance(0, 8, 1), 1, 1);
        fraction("44 two by 4", x.chance(1, 4, 0), x.chance(1, 4, 1), 1, 70);
        fraction("44 house by 4", x.chance(2, 4, 0), x.chance(2, 4, 1), 1, 70);
        fraction("44 house by 7", x.chance(2, 7, 0), x.chance(2, 7, 1), 1, 2);
        int[][] wrong = {{3, 0, 0}, {-1, 0, 0}, {0, 9, 0}, {0, -1, 0}, {0, 0, 2}, {0, 0, -1}};
        for (int[] it : wrong) {
            due("44 wrong", x.chance(it[0], it[1], it[2]), -2);
        }
        due("44 no hall", new BingoHall().chance(0, 0, 0), -2);
        BingoHall y = Check.hall(TWO);
        fraction("44 two of one row", y.chance(1, 2, 0), y.chance(1, 2, 1), 0, 1);
        BingoHall z = Check.hall("hall cards 1 rows 3 each 2 columns 3 3;");
        // By four of six: 15 fours, 3 of which are two rows.
        fraction("44 two of three rows", z.chance(1, 4, 0), z.chance(1, 4, 1), 1, 5);
        fraction("44 two of three rows", z.chance(1, 5, 0), z.chance(1, 5, 1), 1, 1);
        BingoHall a = Check.hall(LARGEST);
        // C(30, 7) of C(45, 22): the house of 15.
        fraction("44 of 45", a.chance(2, 22, 0), a.chance(2, 22, 1), 1, 2022161);
    }

    private static void fraction(String call, long above, long below, long dueAbove, long dueBelow) {
        due(call + " above", above, dueAbove);
        due(call + " below", below, dueBelow);
    }

    private static void promises45And46() {
        BingoHall x = Check.hall(EIGHT);
        // Four rows of two in eight: of 28 pairs 4; of 70 fours all but 16.
        fraction("45 row by 1", x.some(0, 1, 0), x.some(0, 1, 1), 0, 1);
        fraction("45 row by 2", x.some(0, 2, 0), x.some(0, 2, 1), 1, 7);
        fraction("45 row by 4", x.some(0, 4, 0), x.some(0, 4, 1), 27, 35);
        fraction("45 row by 5", x.some(0, 5, 0), x.some(0, 5, 1), 1, 1);
        fraction("45 house by 4", x.some(2, 4, 0), x.some(2, 4, 1), 1, 35);
        fraction("45 house by 8", x.some(2, 8, 0), x.some(2, 8, 1), 1, 1);
        fraction("46 row at 1", x.just(0, 1, 0), x.just(0, 1, 1), 0, 1);
        fraction("46 row at 2", x.just(0, 2, 0), x.just(0, 2, 1), 1, 7);
        fraction("46 row at 5", x.just(0, 5, 0), x.just(0, 5, 1), 8, 35);
        fraction("46 row at 6", x.just(0, 6, 0), x.just(0, 6, 1), 0, 1);
        fraction("46 house at 4", x.just(2, 4, 0), x.just(2, 4, 1), 1, 35);
        fraction("46 house at 8", x.just(2, 8, 0), x.just(2, 8, 1), 0, 1);
        int[][] wrong = {{1, 2, 0}, {3, 2, 0}, {-1, 2, 0}, {0, 9, 0}, {0, -1, 0}, {0, 2, 2}, {0, 2, -1}};
        for (int[] it : wrong) {
            due("45 wrong", x.some(it[0], it[1], it[2]), -2);
            due("46 wrong", x.just(it[0], it[1], it[2]), -2);
        }
        due("46 at 0", x.just(0, 0, 0), -2);
        fraction("45 by 0", x.some(0, 0, 0), x.some(0, 0, 1), 0, 1);
        due("45 no hall", new BingoHall().some(0, 0, 0), -2);
        due("46 no hall", new BingoHall().just(0, 1, 0), -2);
        BingoHall y = Check.hall(CROSS);
        fraction("45 rows of one", y.some(0, 1, 0), y.some(0, 1, 1), 1, 1);
        fraction("46 rows of one", y.just(0, 1, 0), y.just(0, 1, 1), 1, 1);
        fraction("46 rows of one", y.just(0, 2, 0), y.just(0, 2, 1), 0, 1);
        justsOfAllTogether();
    }

    /** What is had first at one CALL is had by that CALL, and not by the one ahead. */
    private static void justsOfAllTogether() {
        BingoHall x = Check.hall(LARGEST);
        for (int kind = 0; kind <= 2; kind += 2) {
            double sum = 0;
            for (int n = 1; n <= 45; n++) {
                sum += (double) x.just(kind, n, 0) / x.just(kind, n, 1);
                double some = (double) x.some(kind, n, 0) / x.some(kind, n, 1);
                due("46 together " + kind + " " + n, Math.abs(sum - some) < 1e-9 ? 1 : 0, 1);
            }
        }
    }

    private static void promises47And48() {
        BingoHall x = Check.hall(EIGHT);
        due("47 nothing", x.likely(0, 0, 1), 0);
        due("47 just so", x.likely(0, 1, 7), 2);
        due("47 a little more", x.likely(0, 144, 1000), 3);
        due("47 just so", x.likely(0, 27, 35), 4);
        due("47 sure", x.likely(0, 1, 1), 5);
        due("47 sure", x.likely(0, 1000, 1000), 5);
        due("47 never", x.likely(0, 1000, 999), -1);
        due("47 house", x.likely(2, 1, 35), 4);
        due("47 house, sure", x.likely(2, 1, 1), 7);
        due("47 never", x.likely(2, 2, 1), -1);
        int[][] wrong = {{1, 1, 2}, {3, 1, 2}, {-1, 1, 2}, {0, -1, 2}, {0, 1001, 2}, {0, 1, 0}, {0, 1, 1001}, {0, 1, -1}};
        for (int[] it : wrong) {
            due("47 wrong", x.likely(it[0], it[1], it[2]), -2);
        }
        due("47 no hall", new BingoHall().likely(0, 0, 1), -2);
        fraction("48 one", x.mean(1, 0), x.mean(1, 1), 9, 2);
        fraction("48 two", x.mean(2, 0), x.mean(2, 1), 6, 1);
        fraction("48 three", x.mean(3, 0), x.mean(3, 1), 27, 4);
        fraction("48 all", x.mean(8, 0), x.mean(8, 1), 8, 1);
        int[][] bad = {{0, 0}, {9, 0}, {-1, 0}, {1, 2}, {1, -1}};
        for (int[] it : bad) {
            due("48 wrong", x.mean(it[0], it[1]), -2);
        }
        due("48 no hall", new BingoHall().mean(1, 0), -2);
        fraction("48 of 45", Check.hall(LARGEST).mean(15, 0), Check.hall(LARGEST).mean(15, 1), 345, 8);
    }

    private static void promise49() {
        BingoHall x = Check.hall(FULL_EIGHT);
        due("49 one", x.evenings(1, 1, 0, 0), 2);
        due("49 one", x.evenings(1, 1, 0, 1), 2);
        due("49 two winners", x.evenings(1, 1, 0, 2), 1);
        // CALLS of seed 0: 7 1 8 3 6 2 4 5: 1 8 behind 3; of seed 2: 1 6 3 7 4 8 5 2: 3 6 behind 3.
        due("49 three", x.evenings(0, 3, 0, 0), 8);
        due("49 three", x.evenings(0, 3, 0, 1), 2);
        due("49 three", x.evenings(0, 3, 0, 2), 1);
        due("49 calls stay", x.call(0), 4);
        due("49 called stays", x.called(7), 8);
        due("49 first stays", x.first(0), 2);
        int[][] wrong = {
            {-1, 1, 0, 0}, {2000000001, 1, 0, 0}, {0, 0, 0, 0}, {0, 21, 0, 0}, {0, -1, 0, 0},
            {0, 1, 3, 0}, {0, 1, -1, 0}, {0, 1, 0, 3}, {0, 1, 0, -1},
        };
        for (int[] it : wrong) {
            due("49 wrong", x.evenings(it[0], it[1], it[2], it[3]), -2);
        }
        due("49 the last seed", x.evenings(2000000000, 20, 0, 2) >= 0 ? 1 : 0, 1);
        due("49 no hall", new BingoHall().evenings(0, 1, 0, 0), -2);
        BingoHall y = Check.hall(EIGHT);
        due("49 none is sold", y.evenings(5, 20, 0, 0), 180);
        due("49 none is sold", y.evenings(5, 20, 0, 1), 9);
        due("49 none is sold", y.evenings(5, 20, 0, 2), 0);
        BingoHall z = Check.hall(TWO + "sold 0;");
        due("49 never can", z.evenings(0, 2, 1, 0), 6);
        due("49 house", z.evenings(0, 2, 2, 0), 4);
        due("49 one winner", z.evenings(0, 2, 2, 2), 0);
    }

    private static void promise50() {
        BingoHall x = Check.hall(EIGHT);
        due("50 nothing", x.judge(0), -6);
        Check.put(x, 0, 4, 1, 6, 3, 5, 2, 8, 7);
        due("50 all along", x.judge(0), 8);
        x.write(0, 7, 6);
        due("50 the last is wrong", x.judge(0), 7);
        x.write(0, 3, 260);
        due("50 the fourth is wrong", x.judge(0), 3);
        x.write(0, 0, 4 + (1L << 32));
        due("50 the first is wrong", x.judge(0), 0);
        Check.put(x, 0, 4, 1);
        due("50 a part", x.judge(0), 2);
        Check.put(x, 0, 4, 2);
        due("50 a part", x.judge(0), 1);
        Check.put(x, 0, 4, 1, 6, 3, 5, 2, 8, 7, 7);
        due("50 more", x.judge(0), 8);
        x.row(0, 1, 0);
        due("50 none", x.judge(0), 0);
        due("50 slot", x.judge(4), -2);
        due("50 slot", x.judge(-1), -2);
        due("50 no hall ahead of nothing", new BingoHall().judge(0), -2);
        Check.putCut(x, 1, 0, 4 + 256, 1, 6);
        due("50 cut to a byte", x.judge(1), 3);
        BingoHall y = Check.hall(LARGEST);
        y.row(0, 0, 60);
        for (int i = 0; i < 45; i++) {
            due("50 the 45 so far " + i, y.judge(0), i);
            y.write(0, i, y.call(i));
        }
        due("50 more than 45", y.judge(0), 45);
    }

    private static void promise51() {
        BingoHall x = Check.hall("hall cards 2 rows 3 each 1 columns 3 3; jackpot 55 by 4; sold 7;");
        int[] counts = {2, 3, 1, 2, 1, 3, 0, 55, 4, 0};
        for (int what = 0; what < 10; what++) {
            due("51 count " + what, x.count(what), counts[what]);
        }
        due("51 other", x.count(10), -1);
        due("51 other", x.count(-1), -1);
        due("51 other", x.count(MIN), -1);
        x.feed(1, 2, 3, 4, 5);
        due("51 tape", x.count(6), 20);
        x.row(0, 0, 0);
        x.row(3, 3, 60);
        due("51 slots", x.count(9), 2);
        x.row(3, 3, 6);
        due("51 slots", x.count(9), 2);
        x.sell(8);
        due("51 sold", x.count(4), 2);
        x.hall();
        due("51 stays", x.count(7), 55);
        Check.read(x, LARGEST);
        int[] others = {3, 3, 5, 5, 0, 1, 0, 0, 0, 2};
        for (int what = 0; what < 10; what++) {
            due("51 count " + what, x.count(what), others[what]);
        }
    }

    private static void promises52And53() {
        BingoHall x = Check.hall(FULL_EIGHT);
        due("53 nothing", x.back(0), -6);
        due("53 nothing", x.back(2), -6);
        due("52 keep", x.keep(2), 0);
        due("52 k", x.keep(3), -2);
        due("52 k", x.keep(-1), -2);
        due("53 k", x.back(3), -2);
        due("53 k", x.back(-1), -2);
        due("53 nothing", x.back(1), -6);
        x.unsell();
        x.unsell();
        x.sell(9999);
        x.caller(0);
        due("52 keep", x.keep(0), 0);
        Check.feed(x, "caller");
        Check.put(x, 1, 4, 1);
        due("53 back", x.back(2), 0);
        due("53 sold", x.count(4), 4);
        due("53 sold", x.sold(2), 3);
        due("53 strips", x.winner(0, 1), 30);
        due("53 calls", x.call(0), 4);
        due("53 called", x.called(4), 1);
        due("53 tape stays", x.count(6), 6);
        due("53 slots stay", x.judge(1), 2);
        due("53 back", x.back(0), 0);
        due("53 sold", x.sold(2), 9999);
        due("53 calls", x.call(0), 7);
        due("53 called", x.called(4), 7);
        x.sell(7);
        due("53 the image stays", x.back(0), 0);
        due("53 the image stays", x.count(4), 3);
        Check.read(x, TWO + "caller 2;");
        due("52 keep", x.keep(1), 0);
        due("53 back", x.back(2), 0);
        imageOfEight(x);
        due("53 back", x.back(1), 0);
        due("53 numbers", x.numbers(), 2);
        due("53 plans", x.plans(), 1);
        due("53 column", x.column(1, 0), 2);
        due("53 prize", x.prize(0, 1), 0);
        due("53 no jackpot", x.count(8), 0);
        due("53 sold", x.count(4), 0);
        BingoHall y = new BingoHall();
        due("52 no HALL", y.keep(0), 0);
        Check.read(y, TWO);
        due("53 no HALL", y.back(0), 0);
        due("53 no HALL", y.numbers(), -2);
        due("53 no HALL", y.count(0), 0);
        due("53 no HALL", y.count(5), 0);
        imageOfLargest();
    }

    private static void imageOfLargest() {
        BingoHall x = Check.hall(LARGEST + "sold 9; sold 10;");
        int[] turns = new int[46];
        for (int number = 1; number <= 45; number++) {
            turns[number] = x.called(number);
        }
        int last = x.first(2);
        x.keep(0);
        Check.read(x, TWO);
        x.back(0);
        for (int number = 1; number <= 45; number++) {
            due("53 called " + number, x.called(number), turns[number]);
            due("53 call " + number, x.call(turns[number] - 1), number);
        }
        due("53 house", x.first(2), last);
        due("53 sold", x.sold(1), 10);
    }

    private static void imageOfEight(BingoHall x) {
        due("53 numbers", x.numbers(), 8);
        due("53 lines", x.count(5), 9);
        due("53 plans", x.plans(), 2);
        due("53 column", x.column(2, 0), 7);
        due("53 cell", x.cell(0, 1, 1, 1), 5);
        due("53 prize", x.prize(0, 0), 50);
        due("53 jackpot", x.jackpot(0), 996);
        due("53 wins", x.wins(3), 551);
        due("53 by", x.count(8), 7);
    }

    private static void promises54And55() {
        BingoHall x = Check.hall(EIGHT);
        due("54 row", x.row(0, 0, 60), 0);
        due("54 too many", x.row(0, 0, 61), -2);
        due("54 too many", x.row(0, 0, MAX), -2);
        due("54 width", x.row(0, 4, 1), -2);
        due("54 width", x.row(0, -1, 1), -2);
        due("54 slot", x.row(4, 0, 1), -2);
        due("54 slot", x.row(-1, 0, 1), -2);
        due("54 below 0", x.row(0, 0, -1), -3);
        due("54 below 0", x.row(0, 3, MIN), -3);
        due("54 width ahead of below 0", x.row(0, 4, -1), -2);
        due("54 slot ahead of below 0", x.row(4, 0, -1), -2);
        due("54 a new one stays none", x.row(2, 0, -1), -3);
        due("54 a new one stays none", x.write(2, 0, 0), -6);
        due("55 the last", x.write(0, 59, 1), 0);
        due("55 behind the last", x.write(0, 60, 1), -7);
        due("55 below", x.write(0, -1, 1), -7);
        due("55 max", x.write(0, MAX, 1), -7);
        due("55 slot", x.write(4, 0, 1), -2);
        due("55 slot", x.write(-1, 0, 1), -2);
        due("55 nothing", x.write(1, 0, 1), -6);
        due("55 nothing ahead of the number", x.write(1, 99, 1), -6);
        x.row(0, 0, 0);
        due("55 of none", x.write(0, 0, 1), -7);
        due("54 in place of another", x.row(0, 3, 3), 0);
        due("55 shorter", x.write(0, 3, 1), -7);
        widths();
    }

    /** What a WIDTH leaves of a number is seen by judge: CALL 0 is 4 here. */
    private static void widths() {
        int[] bits = {8, 16, 32, 64};
        for (int width = 0; width < 4; width++) {
            BingoHall x = Check.hall(EIGHT);
            due("54 row", x.row(0, width, 1), 0);
            due("54 all 0", x.judge(0), 0);
            for (int shift = 3; shift < 64; shift++) {
                due("55 write", x.write(0, 0, 4 | 1L << shift), 0);
                due("55 cut " + width + " " + shift, x.judge(0), shift >= bits[width] ? 1 : 0);
            }
            x.write(0, 0, 4);
            x.row(0, width, 1);
            x.write(0, 0, -2);
            due("55 below 0", x.judge(0), 0);
            x.row(0, width, 8);
            due("54 all 0 again", x.calls(0), -2);
        }
        BingoHall y = Check.hall(EIGHT);
        Check.put(y, 0, 2, 1, 1);
        y.row(0, 3, 3);
        due("54 all 0 again", y.layouts(0), 0);
    }

    private static void promise56() {
        BingoHall x = Check.hall(EIGHT);
        due("56 nothing", x.paste(0, 0, 1, 0, 0), -6);
        Check.putCut(x, 0, 1, 4, 1, 6, 3);
        Check.putCut(x, 1, 1, 0, 0, 0);
        due("56 one has nothing", x.paste(0, 0, 2, 0, 1), -6);
        due("56 one has nothing", x.paste(2, 0, 0, 0, 1), -6);
        due("56 slot", x.paste(4, 0, 0, 0, 1), -2);
        due("56 slot", x.paste(0, 0, 4, 0, 1), -2);
        due("56 slot", x.paste(-1, 0, 2, 0, 1), -2);
        due("56 slot", x.paste(0, 0, -1, 0, 1), -2);
        int[][] beyond = {
            {0, 0, 5}, {0, 0, 4}, {1, 0, 4}, {0, 1, 3}, {4, 0, 1}, {0, 3, 1}, {5, 0, 0}, {0, 4, 0},
            {-1, 0, 1}, {0, -1, 1}, {0, 0, -1}, {1, 1, -1}, {MAX, 0, MAX}, {0, MAX, MAX}, {0, 0, MAX}, {MIN, MIN, MIN},
        };
        for (int[] it : beyond) {
            due("56 beyond", x.paste(0, it[0], 1, it[1], it[2]), -7);
        }
        due("56 nothing happens", x.judge(1), 0);
        due("56 none at the ends", x.paste(0, 4, 1, 3, 0), 0);
        due("56 three", x.paste(0, 0, 1, 0, 3), 0);
        due("56 three are there", x.judge(1), 3);
        due("56 its own", x.paste(0, 0, 0, 1, 3), 0);
        due("56 as they were, behind", x.judge(0), 1);
        due("56 its own, back", x.paste(0, 1, 0, 0, 3), 0);
        due("56 as they were, ahead", x.judge(0), 3);
        due("56 its own beyond", x.paste(0, 1, 0, 0, 4), -7);
        Check.putCut(x, 2, 2, 4, 1, 6);
        due("56 width", x.paste(2, 0, 1, 0, 1), -8);
        due("56 width", x.paste(1, 0, 2, 0, 1), -8);
        due("56 width ahead of beyond", x.paste(2, 0, 1, 0, 99), -8);
        due("56 width of none", x.paste(2, 0, 1, 0, 0), -8);
        for (int width = 0; width < 4; width++) {
            Check.putCut(x, 2, width, 9, 4, 1, 6, 3);
            Check.putCut(x, 3, width, 7, 7, 7);
            due("56 of width " + width, x.paste(2, 1, 3, 0, 2), 0);
            due("56 of width " + width, x.judge(3), 2);
        }
    }
}
