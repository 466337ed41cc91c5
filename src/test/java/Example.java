/** The example of README.md: a hall is told, a strip is sold, numbers are called. */
public final class Example {
    private static final String TEXT = "hall cards 3 rows 3 each 3 columns 6 6 6 5 4;\n"
        + "prize row 100; prize house 5000; jackpot 999 by 25; sold 12; caller 7;\n";

    public static void main(String[] args) {
        BingoHall x = new BingoHall();
        feed(x, TEXT);
        int lines = x.hall();
        if (lines < 0) {
            System.out.println("fault " + x.fault(0) + " at byte " + x.fault(1));
            return;
        }
        System.out.println("lines: " + lines + ", numbers: " + x.numbers());
        System.out.println("sold: " + x.sell(77));
        for (int row = 0; row < x.count(1); row++) {
            for (int column = 0; column < x.count(3); column++) {
                System.out.print((column == 0 ? "" : " ") + x.cell(77, 0, row, column));
            }
            System.out.println();
        }
        System.out.println("first row behind " + x.first(0) + " calls, house behind " + x.first(2));
        int winner = x.winner(2, 0);
        System.out.println("the house: strip " + x.sold(winner / 10) + ", card " + winner % 10);
        System.out.println("it brings " + x.prize(2, 0) + " and of the jackpot " + x.jackpot(0));
        System.out.println("missed by " + x.jackpot(1) + ", wins in all " + x.wins(winner / 10));
        System.out.println("a row by 9 calls: " + x.chance(0, 9, 0) + " / " + x.chance(0, 9, 1));
    }

    /** Twenty bytes a call, four of each number, the highest first; then the length is set. */
    private static void feed(BingoHall x, String text) {
        for (int from = 0; from < text.length(); from += 20) {
            int[] words = new int[5];
            for (int i = 0; i < 20; i++) {
                int sign = from + i < text.length() ? text.charAt(from + i) : ' ';
                words[i / 4] = words[i / 4] << 8 | sign & 255;
            }
            x.feed(words[0], words[1], words[2], words[3], words[4]);
        }
        x.end(text.length());
    }
}
