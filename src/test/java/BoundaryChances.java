/** Promises 44 to 49: chances, means and EVENINGS. */
final class BoundaryChances extends Boundary {
    static void all() {
        chanceBounds();
        chanceNone();
        some();
        someNone();
        just();
        justNone();
        likelyOrMore();
        likelyNever();
        likelyNone();
        mean();
        meanNone();
        evenings();
        eveningsSeeds();
        eveningsNone();
    }

    private static void chanceBounds() {
        says(44, "CHANCE (IV) that a told CARD has a KIND by n CALLS (0 .. NUMBERS), above (what 0), below (1).");
        BingoHall x = Check.hall(EIGHT);
        int[][] rows = {{0, 1}, {0, 1}, {1, 14}, {3, 14}, {29, 70}, {9, 14}, {6, 7}, {1, 1}, {1, 1}};
        int[][] houses = {{0, 1}, {0, 1}, {0, 1}, {0, 1}, {1, 70}, {1, 14}, {3, 14}, {1, 2}, {1, 1}};
        for (int n = 0; n <= 8; n++) {
            fraction("chance(0, " + n + ")", x.chance(0, n, 0), x.chance(0, n, 1), rows[n][0], rows[n][1]);
            fraction("chance(1, " + n + ")", x.chance(1, n, 0), x.chance(1, n, 1), houses[n][0], houses[n][1]);
            fraction("chance(2, " + n + ")", x.chance(2, n, 0), x.chance(2, n, 1), houses[n][0], houses[n][1]);
        }
        BingoHall y = Check.hall(LARGEST);
        fraction("of 45 by 14", y.chance(2, 14, 0), y.chance(2, 14, 1), 0, 1);
        fraction("of 45 by 15", y.chance(2, 15, 0), y.chance(2, 15, 1), 1, 344867425584L);
        fraction("of 45 by 44", y.chance(2, 44, 0), y.chance(2, 44, 1), 2, 3);
        fraction("of 45 by 45", y.chance(2, 45, 0), y.chance(2, 45, 1), 1, 1);
        BingoHall one = Check.hall(TWO);
        fraction("two of one row", one.chance(1, 2, 0), one.chance(1, 2, 1), 0, 1);
        fraction("row of one row", one.chance(0, 2, 0), one.chance(0, 2, 1), 1, 1);
        BingoHall three = Check.hall(THREE_ROWS);
        // Three pairs of six: two of them in none, 3 of 15, each, each.
        int[][] twos = {{0, 1}, {0, 1}, {0, 1}, {0, 1}, {1, 5}, {1, 1}, {1, 1}};
        for (int n = 0; n <= 6; n++) {
            fraction("two of three rows by " + n, three.chance(1, n, 0), three.chance(1, n, 1), twos[n][0], twos[n][1]);
        }
    }

    private static void chanceNone() {
        says(44, "-2: there are none such, no HALL.");
        BingoHall x = Check.hall(EIGHT);
        within("chance(kind, 4, 0)", -2, 0, 29, 2, 1, kind -> x.chance(kind, 4, 0));
        within("chance(0, n, 1)", -2, 0, 1, 8, 1, n -> x.chance(0, n, 1));
        within("chance(0, 4, what)", -2, 0, 29, 1, 70, what -> x.chance(0, 4, what));
        due("no HALL", new BingoHall().chance(0, 0, 0), -2);
    }

    private static void some() {
        says(45, "That some CARD of a told STRIP has: a row, a house (KINDS 0, 2).");
        BingoHall x = Check.hall(EIGHT);
        int[][] rows = {{0, 1}, {0, 1}, {1, 7}, {3, 7}, {27, 35}, {1, 1}, {1, 1}, {1, 1}, {1, 1}};
        int[][] houses = {{0, 1}, {0, 1}, {0, 1}, {0, 1}, {1, 35}, {1, 7}, {3, 7}, {1, 1}, {1, 1}};
        for (int n = 0; n <= 8; n++) {
            fraction("some(0, " + n + ")", x.some(0, n, 0), x.some(0, n, 1), rows[n][0], rows[n][1]);
            fraction("some(2, " + n + ")", x.some(2, n, 0), x.some(2, n, 1), houses[n][0], houses[n][1]);
        }
        BingoHall y = Check.hall(LARGEST);
        fraction("a row of 45 by 4", y.some(0, 4, 0), y.some(0, 4, 1), 0, 1);
        fraction("a row of 45 by 5", y.some(0, 5, 0), y.some(0, 5, 1), 1, 135751);
        fraction("a row of 45 by 37", y.some(0, 37, 0), y.some(0, 37, 1), 1, 1);
        fraction("a house of 45 by 15", y.some(2, 15, 0), y.some(2, 15, 1), 1, 114955808528L);
        fraction("a house of 45 by 42", y.some(2, 42, 0), y.some(2, 42, 1), 721, 946);
        fraction("a house of 45 by 43", y.some(2, 43, 0), y.some(2, 43, 1), 1, 1);
    }

    private static void someNone() {
        says(45, "-2 likewise, of KIND 1.");
        BingoHall x = Check.hall(EIGHT);
        within("some(kind, 4, 0)", -2, 0, 27, 2, 1, kind -> x.some(kind, 4, 0));
        due("some(1, 4, 0)", x.some(1, 4, 0), -2);
        due("some(1, 0, 1)", x.some(1, 0, 1), -2);
        within("some(0, n, 1)", -2, 0, 1, 8, 1, n -> x.some(0, n, 1));
        within("some(0, 4, what)", -2, 0, 27, 1, 35, what -> x.some(0, 4, what));
        due("no HALL", new BingoHall().some(0, 0, 0), -2);
    }

    private static void just() {
        says(46, "That this (of a STRIP, as some()) is had first at just CALL n (1 .. NUMBERS).");
        BingoHall x = Check.hall(EIGHT);
        int[][] rows = {{0, 1}, {1, 7}, {2, 7}, {12, 35}, {8, 35}, {0, 1}, {0, 1}, {0, 1}};
        int[][] houses = {{0, 1}, {0, 1}, {0, 1}, {1, 35}, {4, 35}, {2, 7}, {4, 7}, {0, 1}};
        for (int n = 1; n <= 8; n++) {
            fraction("just(0, " + n + ")", x.just(0, n, 0), x.just(0, n, 1), rows[n - 1][0], rows[n - 1][1]);
            fraction("just(2, " + n + ")", x.just(2, n, 0), x.just(2, n, 1), houses[n - 1][0], houses[n - 1][1]);
        }
        BingoHall y = Check.hall(LARGEST);
        fraction("a row of 45 at 5", y.just(0, 5, 0), y.just(0, 5, 1), 1, 135751);
        fraction("a row of 45 at 37", y.just(0, 37, 0), y.just(0, 37, 1), 390625, 177232627);
        fraction("a row of 45 at 38", y.just(0, 38, 0), y.just(0, 38, 1), 0, 1);
        fraction("a house of 45 at 15", y.just(2, 15, 0), y.just(2, 15, 1), 1, 114955808528L);
        fraction("a house of 45 at 43", y.just(2, 43, 0), y.just(2, 43, 1), 225, 946);
        fraction("a house of 45 at 44", y.just(2, 44, 0), y.just(2, 44, 1), 0, 1);
    }

    private static void justNone() {
        says(46, "-2 likewise.");
        BingoHall x = Check.hall(EIGHT);
        within("just(0, n, 1)", -2, 1, 1, 8, 1, n -> x.just(0, n, 1));
        within("just(kind, 4, 1)", -2, 0, 35, 2, 35, kind -> x.just(kind, 4, 1));
        due("just(1, 4, 0)", x.just(1, 4, 0), -2);
        within("just(0, 4, what)", -2, 0, 12, 1, 35, what -> x.just(0, 4, what));
        due("no HALL", new BingoHall().just(0, 1, 0), -2);
    }

    private static void likelyOrMore() {
        says(47, "The fewest CALLS by which some CARD of a told STRIP has a KIND (0, 2) as likely as above / below"
            + " (0 .. 1,000 / 1 .. 1,000), or more.");
        BingoHall x = Check.hall(EIGHT);
        // Rows 1/7, 3/7, 27/35, 1 by 2 .. 5; houses 1/35, 1/7, 3/7, 1 by 4 .. 7.
        int[][] rows = {{0, 1, 0}, {0, 1000, 0}, {1, 1000, 2}, {1, 8, 2}, {1, 7, 2}, {142, 1000, 2}, {143, 1000, 3}, {3, 7, 3}, {428, 1000, 3},
            {429, 1000, 4}, {27, 35, 4}, {771, 1000, 4}, {772, 1000, 5}, {999, 1000, 5}, {1000, 1000, 5}, {1, 1, 5}};
        for (int[] it : rows) {
            due("likely(0, " + it[0] + ", " + it[1] + ")", x.likely(0, it[0], it[1]), it[2]);
        }
        int[][] houses = {{0, 1, 0}, {1, 1000, 4}, {28, 1000, 4}, {1, 35, 4}, {29, 1000, 5}, {1, 7, 5}, {3, 7, 6}, {429, 1000, 7}, {1, 1, 7}};
        for (int[] it : houses) {
            due("likely(2, " + it[0] + ", " + it[1] + ")", x.likely(2, it[0], it[1]), it[2]);
        }
        BingoHall y = Check.hall(LARGEST);
        due("a row of 45, sure", y.likely(0, 1000, 1000), 37);
        due("a house of 45, sure", y.likely(2, 1000, 1000), 43);
        due("a house of 45, as 721 / 946", y.likely(2, 721, 946), 42);
        due("a house of 45, as 722 / 946", y.likely(2, 722, 946), 43);
        due("all at once", Check.hall(TWO).likely(0, 1, 1000), 2);
    }

    private static void likelyNever() {
        says(47, "NONE: never");
        BingoHall x = Check.hall(EIGHT);
        due("likely(0, 1000, 1000)", x.likely(0, 1000, 1000), 5);
        due("likely(0, 1000, 999)", x.likely(0, 1000, 999), -1);
        due("likely(2, 999, 999)", x.likely(2, 999, 999), 7);
        due("likely(2, 1000, 1)", x.likely(2, 1000, 1), -1);
        due("likely(2, 2, 1)", x.likely(2, 2, 1), -1);
    }

    private static void likelyNone() {
        says(47, "-2: there are none such, no HALL.");
        BingoHall x = Check.hall(EIGHT);
        within("likely(kind, 1, 1)", -2, 0, 5, 2, 7, kind -> x.likely(kind, 1, 1));
        due("likely(1, 1, 1)", x.likely(1, 1, 1), -2);
        within("likely(0, above, 1000)", -2, 0, 0, 1000, 5, above -> x.likely(0, above, 1000));
        within("likely(0, 1, below)", -2, 1, 5, 1000, 2, below -> x.likely(0, 1, below));
        due("likely(0, 0, 0)", x.likely(0, 0, 0), -2);
        due("no HALL", new BingoHall().likely(0, 0, 1), -2);
    }

    private static void mean() {
        says(48, "The mean of how many CALLS it takes till n told NUMBERS (1 .. NUMBERS) are called, above (what 0), below (1).");
        BingoHall x = Check.hall(EIGHT);
        int[][] means = {{9, 2}, {6, 1}, {27, 4}, {36, 5}, {15, 2}, {54, 7}, {63, 8}, {8, 1}};
        for (int n = 1; n <= 8; n++) {
            fraction("mean(" + n + ")", x.mean(n, 0), x.mean(n, 1), means[n - 1][0], means[n - 1][1]);
        }
        BingoHall y = Check.hall(LARGEST);
        fraction("one of 45", y.mean(1, 0), y.mean(1, 1), 23, 1);
        fraction("45 of 45", y.mean(45, 0), y.mean(45, 1), 45, 1);
        fraction("44 of 45", y.mean(44, 0), y.mean(44, 1), 2024, 45);
    }

    private static void meanNone() {
        says(48, "-2: there are none such, no HALL.");
        BingoHall x = Check.hall(EIGHT);
        within("mean(n, 0)", -2, 1, 9, 8, 8, n -> x.mean(n, 0));
        within("mean(3, what)", -2, 0, 27, 1, 4, what -> x.mean(3, what));
        due("no HALL", new BingoHall().mean(1, 0), -2);
    }

    private static void evenings() {
        says(49, "what 0: how many CALLS it takes to a KIND in all (NUMBERS and one, if none does), 1: the fewest,"
            + " 2: in how many there are two winners or more.");
        BingoHall x = Check.hall(SOLD_EIGHT);
        // First rows are behind 3, 2, 3 by seeds 0, 1, 2; of one, two, one CARDS.
        int[][] due = {{0, 1, 3, 3, 0}, {1, 1, 2, 2, 1}, {2, 1, 3, 3, 0}, {0, 2, 5, 2, 1}, {1, 2, 5, 2, 1}, {0, 3, 8, 2, 1}};
        for (int[] it : due) {
            for (int what = 0; what < 3; what++) {
                due("evenings(" + it[0] + ", " + it[1] + ", 0, " + what + ")", x.evenings(it[0], it[1], 0, what), it[2 + what]);
            }
        }
        due("four winners", x.evenings(1, 1, 2, 2), 1);
        int[] none = {9, 9, 0, 180, 9, 0};
        BingoHall y = Check.hall(EIGHT);
        BingoHall one = Check.hall(TWO + "sold 0;");
        int[] never = {3, 3, 0, 60, 3, 0};
        int[] last = {2, 2, 0, 40, 2, 0};
        for (int i = 0; i < 6; i++) {
            int n = i < 3 ? 1 : 20;
            due("none is SOLD, " + n + ", " + i % 3, y.evenings(5, n, 0, i % 3), none[i]);
            due("none can, " + n + ", " + i % 3, one.evenings(5, n, 1, i % 3), never[i]);
            due("at the last, " + n + ", " + i % 3, one.evenings(5, n, 2, i % 3), last[i]);
        }
    }

    private static void eveningsSeeds() {
        says(49, "Of n EVENINGS (1 .. 20) with CALLERS' seeds, the seed and 1, .. (in thought)");
        BingoHall x = Check.hall(SOLD_EIGHT);
        int[] sums = new int[21];
        int[] alone = new int[21];
        for (int i = 0; i < 20; i++) {
            x.caller(100 + i);
            alone[i] = x.first(0);
            sums[i + 1] = sums[i] + alone[i];
        }
        x.caller(1);
        for (int n = 1; n <= 20; n++) {
            due("evenings(100, " + n + ", 0, 0)", x.evenings(100, n, 0, 0), sums[n]);
        }
        due("evenings(119, 1, 0, 0)", x.evenings(119, 1, 0, 0), alone[19]);
        calls("stay", x, 4, 1, 6, 3, 5, 2, 8, 7);
        due("first(0) stays", x.first(0), 2);
        due("called(7) stays", x.called(7), 8);
        // Behind the last seed told there are more, in thought.
        Model m = new Model(2, 2, 2, 3, 3, 2);
        int sum = 0;
        for (int i = 0; i < 20; i++) {
            int fewest = 8;
            for (int serial : new int[] {0, 2, 3, 7}) {
                for (int[][] card : m.strip(serial)) {
                    fewest = Math.min(fewest, Model.done(card, 2, new Draws(2000000000L + i).mixed(8)));
                }
            }
            sum += fewest;
        }
        due("evenings(2000000000, 20, 2, 0)", x.evenings(2000000000, 20, 2, 0), sum);
        eveningsOf45();
    }

    private static void eveningsOf45() {
        BingoHall x = Check.hall(LARGEST + "sold 3;");
        Model m = new Model(3, 3, 5, 9, 9, 9, 9, 9);
        int[][][] strip = m.strip(3);
        for (int seed = 0; seed < 100; seed++) {
            int fewest = 45;
            for (int[][] card : strip) {
                fewest = Math.min(fewest, Model.done(card, 2, new Draws(seed).mixed(45)));
            }
            due("of 45, seed " + seed, x.evenings(seed, 1, 2, 0), fewest);
        }
    }

    private static void eveningsNone() {
        says(49, "-2: there are none such, no HALL.");
        BingoHall x = Check.hall(EIGHT);
        within("evenings(seed, 1, 0, 0)", -2, 0, 9, 2000000000, 9, seed -> x.evenings(seed, 1, 0, 0));
        within("evenings(5, n, 0, 0)", -2, 1, 9, 20, 180, n -> x.evenings(5, n, 0, 0));
        within("evenings(5, 2, kind, 0)", -2, 0, 18, 2, 18, kind -> x.evenings(5, 2, kind, 0));
        within("evenings(5, 2, 0, what)", -2, 0, 18, 2, 0, what -> x.evenings(5, 2, 0, what));
        due("no HALL", new BingoHall().evenings(0, 1, 0, 0), -2);
    }
}
