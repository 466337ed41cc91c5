/** Counts and tells answers that are not the ones that are due. */
final class Check {
    private static int wrong = 0;
    private static int asked = 0;

    private Check() {
    }

    static void due(String call, long got, long want) {
        asked++;
        if (got != want) {
            wrong++;
            if (wrong <= 50) {
                System.out.println(call + " answered " + got + ", due is " + want);
            }
        }
    }

    static void end() {
        System.out.println(asked + " answers, " + wrong + " wrong");
        if (wrong > 0 || asked == 0) {
            System.exit(1);
        }
    }

    /** Puts a text on the TAPE of a hall, whose bytes are the signs' numbers. */
    static void feed(BingoHall x, String text) {
        int before = x.count(6);
        for (int from = 0; from < text.length(); from += 20) {
            int[] words = new int[5];
            for (int i = 0; i < 20; i++) {
                int sign = from + i < text.length() ? text.charAt(from + i) : ' ';
                words[i / 4] = words[i / 4] << 8 | sign & 255;
            }
            x.feed(words[0], words[1], words[2], words[3], words[4]);
        }
        x.end(before + text.length());
    }

    static int read(BingoHall x, String text) {
        x.end(0);
        feed(x, text);
        return x.hall();
    }

    static BingoHall hall(String text) {
        BingoHall x = new BingoHall();
        int lines = read(x, text);
        if (lines < 1) {
            due("hall " + text, lines, 1);
        }
        return x;
    }

    static void put(BingoHall x, int slot, long... row) {
        putCut(x, slot, 3, row);
    }

    static void putCut(BingoHall x, int slot, int width, long... row) {
        x.row(slot, width, row.length);
        for (int i = 0; i < row.length; i++) {
            x.write(slot, i, row[i]);
        }
    }
}
