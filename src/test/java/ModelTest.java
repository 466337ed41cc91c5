import java.util.ArrayList;
import java.util.Arrays;
import java.util.List;

/** Asks all of many halls, and compares with the Model, which lists what the class counts. */
public final class ModelTest {
    public static void main(String[] args) {
        Model[] models = {
            new Model(1, 1, 1, 1, 1),
            new Model(1, 1, 2, 1, 1),
            new Model(1, 2, 1, 1, 1),
            new Model(2, 1, 2, 2, 2),
            new Model(1, 3, 1, 2, 1),
            new Model(2, 2, 2, 3, 3, 2),
            new Model(1, 2, 2, 2, 1, 1),
            new Model(3, 2, 2, 5, 4, 3),
            new Model(2, 3, 2, 5, 4, 3),
            new Model(1, 3, 3, 2, 2, 2, 2, 1),
            new Model(3, 3, 3, 6, 6, 6, 5, 4),
            new Model(3, 3, 3, 9, 5, 5, 5, 3),
            new Model(2, 3, 4, 6, 5, 5, 5, 3),
            new Model(3, 3, 5, 9, 9, 9, 9, 9),
            new Model(3, 2, 4, 6, 6, 6, 3, 3),
            new Model(3, 1, 3, 3, 3, 3),
        };
        for (Model model : models) {
            if (isHall(model)) {
                plansAndLayouts(model);
                strips(model);
                evening(model, "", 1);
                evening(model, "caller 99999;", 99999);
                if (model.numbers <= 14) {
                    chances(model);
                }
            }
        }
        allSmallHalls();
        Check.end();
    }

    private static boolean isHall(Model m) {
        boolean isAsSaid = m.columns >= m.each && m.numbers == m.cards * m.rows * m.each && !m.plans.isEmpty();
        Check.due(m.line(), Check.read(new BingoHall(), m.line()), isAsSaid ? 1 : -4);
        return isAsSaid;
    }

    /** Whether there is a PLAN is asked of every two COLUMNS and of many three. */
    private static void allSmallHalls() {
        for (int cards = 1; cards <= 3; cards++) {
            for (int rows = 1; rows <= 3; rows++) {
                for (int each = 1; each <= 3; each++) {
                    for (int a = 1; a <= 15; a++) {
                        int rest = cards * rows * each - a;
                        if (rest >= 1 && rest <= 15) {
                            Model m = new Model(cards, rows, each, a, rest);
                            if (isHall(m)) {
                                Check.due(m.line() + " plans", Check.hall(m.line()).plans(), m.plans.size());
                            }
                        }
                        for (int b = 1; b <= 15; b += 2) {
                            int third = rest - b;
                            if (third >= 1 && third <= 15) {
                                Model m = new Model(cards, rows, each, a, b, third);
                                if (isHall(m)) {
                                    Check.due(m.line() + " plans", Check.hall(m.line()).plans(), m.plans.size());
                                }
                            }
                        }
                    }
                }
            }
        }
    }

    private static void plansAndLayouts(Model m) {
        BingoHall x = Check.hall(m.line());
        Check.due(m.line() + " plans", x.plans(), m.plans.size());
        int step = 1 + m.plans.size() / 9;
        for (int i = 0; i < m.plans.size(); i += step) {
            for (int card = 0; card < m.cards; card++) {
                for (int column = 0; column < m.columns; column++) {
                    String call = m.line() + " plan " + i + " " + card + " " + column;
                    Check.due(call, x.plan(i, card, column), m.plans.get(i)[card][column]);
                }
            }
        }
        BingoHall y = Check.hall(m.line());
        int[] counts = new int[m.columns];
        for (int code = 0; code < 40; code++) {
            long[] row = new long[m.columns];
            int rest = code * 7919 % 1024;
            for (int column = 0; column < m.columns; column++) {
                counts[column] = rest % (m.rows + 1);
                row[column] = counts[column];
                rest /= m.rows + 1;
            }
            Check.put(y, 0, row);
            Check.due(m.line() + " layouts " + Arrays.toString(counts), y.layouts(0), m.layouts(counts).size());
        }
        for (int card = 0; card < m.cards; card++) {
            int[] mix = m.plans.get(m.plans.size() - 1)[card];
            Check.put(y, 1, Arrays.stream(mix).asLongStream().toArray());
            Check.due(m.line() + " layouts " + Arrays.toString(mix), y.layouts(1), m.layouts(mix).size());
        }
    }

    private static void strips(Model m) {
        for (int serial : new int[] {0, 1, 2, 77, 4711, 9998, 9999}) {
            BingoHall x = Check.hall(m.line());
            Check.due(m.line() + " made " + serial, x.made(serial), m.made(serial));
            int[][][] strip = m.strip(serial);
            for (int card = 0; card < m.cards; card++) {
                for (int row = 0; row < m.rows; row++) {
                    for (int column = 0; column < m.columns; column++) {
                        int number = strip[card][row][column];
                        String place = m.line() + " " + serial + " " + card + " " + row + " " + column;
                        Check.due("cell " + place, x.cell(serial, card, row, column), number);
                        if (number > 0) {
                            Check.due("where " + place, x.where(serial, number), 100 * card + 10 * row + column);
                        }
                    }
                }
            }
        }
        BingoHall x = Check.hall(m.line());
        for (int serial = 0; serial < 40; serial += 3) {
            int other = serial * 31 % 50;
            int[][][] one = m.strip(serial);
            int[][][] two = m.strip(other);
            int isSame = Arrays.deepEquals(one, two) ? 1 : 0;
            Check.due(m.line() + " same " + serial + " " + other, x.same(serial, other), isSame);
            int card = serial % m.cards;
            int second = other % m.cards;
            Check.due(m.line() + " alike " + serial, x.alike(serial, card, other, second), common(one[card], two[second]));
        }
        List<Integer> book = book(m, 9950);
        for (int i = 0; i <= 40; i++) {
            Check.due(m.line() + " book " + i, x.book(9950, i), i < book.size() ? book.get(i) : -1);
        }
    }

    private static int common(int[][] one, int[][] other) {
        int many = 0;
        for (int[] row : one) {
            for (int number : row) {
                for (int[] otherRow : other) {
                    for (int second : otherRow) {
                        many += number > 0 && number == second ? 1 : 0;
                    }
                }
            }
        }
        return many;
    }

    private static List<Integer> book(Model m, int serial) {
        List<int[][][]> strips = new ArrayList<>();
        List<Integer> book = new ArrayList<>();
        for (int it = serial; it < serial + 40 && it <= 9999; it++) {
            int[][][] strip = m.strip(it);
            if (strips.stream().noneMatch(s -> Arrays.deepEquals(s, strip))) {
                strips.add(strip);
                book.add(it);
            }
        }
        return book;
    }

    private static void evening(Model m, String callerLine, int seed) {
        String money = "prize row 100; prize two 1001; prize house 9999; jackpot 777 by " + (m.numbers * 3 / 4 + 1) + ";";
        BingoHall x = Check.hall(m.line() + callerLine + money);
        int[] calls = m.calls(seed);
        for (int i = 0; i < m.numbers; i++) {
            Check.due(m.line() + " call " + i, x.call(i), calls[i]);
            Check.due(m.line() + " called " + calls[i], x.called(calls[i]), i + 1);
        }
        List<int[][][]> strips = sellUpTo(x, m, 8);
        // An object is promised for 512 calls alone; an image of the rest is made anew.
        oneCards(m, callerLine + money, calls);
        prizes(x, m, strips, calls);
        BingoHall y = Check.hall(m.line() + callerLine + money);
        sellUpTo(y, m, 8);
        sweating(y, m, strips, calls);
        evenings(y, m, strips);
    }

    private static List<int[][][]> sellUpTo(BingoHall x, Model m, int most) {
        List<int[][][]> strips = new ArrayList<>();
        for (int serial = 300; serial < 330 && strips.size() < most; serial++) {
            int[][][] strip = m.strip(serial);
            boolean isNew = strips.stream().noneMatch(s -> Arrays.deepEquals(s, strip));
            if (isNew) {
                strips.add(strip);
            }
            Check.due(m.line() + " sell " + serial, x.sell(serial), isNew ? strips.size() : -5);
        }
        return strips;
    }

    private static void oneCards(Model m, String more, int[] calls) {
        BingoHall x = Check.hall(m.line() + more);
        int[][][] strip = m.strip(123);
        int card = m.cards - 1;
        for (int n = 0; n <= m.numbers; n += 1 + m.numbers / 10) {
            boolean[] called = Model.calledBy(calls, n);
            int[] lacks = Model.lacksOfRows(strip[card], called);
            String call = m.line() + " n " + n;
            Check.due(call + " daubs", x.daubs(123, card, n), m.rows * m.each - Arrays.stream(lacks).sum());
            Check.due(call + " full", x.full(123, card, n), Arrays.stream(lacks).filter(l -> l == 0).count());
            for (int kind = 0; kind < 3; kind++) {
                Check.due(call + " lacks " + kind, x.lacks(123, card, kind, n), Model.lacks(strip[card], kind, called));
            }
        }
        for (int kind = 0; kind < 3; kind++) {
            int done = Model.done(strip[card], kind, calls);
            Check.due(m.line() + " done " + kind, x.done(123, card, kind), done);
            for (int n = 1; n <= m.numbers; n += 1 + m.numbers / 9) {
                int claim = done == -1 || n < done ? 1 : n == done ? 0 : 2;
                Check.due(m.line() + " claim " + kind + " " + n, x.claim(123, card, kind, n), claim);
            }
            if (done > 0) {
                Check.due(m.line() + " claim " + kind + " at " + done, x.claim(123, card, kind, done), 0);
            }
        }
        int house = Model.done(strip[card], 2, calls);
        Check.due(m.line() + " last", x.last(123, card), calls[house - 1]);
        shapesOfOne(x, m, strip[card], card, calls);
    }

    private static void shapesOfOne(BingoHall x, Model m, int[][] it, int card, int[] calls) {
        for (int column = 0; column < m.columns; column++) {
            int turn = 0;
            long[] places = new long[m.rows];
            for (int row = 0; row < m.rows; row++) {
                turn = Math.max(turn, turnOf(calls, it[row][column]));
                places[row] = 10 * row + column;
            }
            Check.put(x, 2, places);
            Check.due(m.line() + " filled " + column, x.filled(123, card, column), turn);
            Check.due(m.line() + " shaped " + column, x.shaped(123, card, 2), turn);
        }
        int turn = 0;
        for (int row : new int[] {0, m.rows - 1}) {
            int[] full = Arrays.stream(it[row]).filter(number -> number > 0).toArray();
            turn = Math.max(turn, turnOf(calls, full[0]));
            turn = Math.max(turn, turnOf(calls, full[full.length - 1]));
        }
        Check.due(m.line() + " corners", x.corners(123, card), turn);
    }

    private static int turnOf(int[] calls, int number) {
        for (int i = 0; i < calls.length; i++) {
            if (calls[i] == number) {
                return i + 1;
            }
        }
        return 0;
    }

    private static void prizes(BingoHall x, Model m, List<int[][][]> strips, int[] calls) {
        int[] money = {100, 1001, 9999};
        int by = m.numbers * 3 / 4 + 1;
        int[] wins = new int[strips.size()];
        for (int kind = 0; kind < 3; kind++) {
            int first = Model.first(strips, kind, calls);
            List<Integer> winners = Model.winners(strips, kind, calls);
            Check.due(m.line() + " first " + kind, x.first(kind), first);
            Check.due(m.line() + " winner " + kind, x.winner(kind, -1), winners.size());
            for (int i = 0; i <= winners.size(); i++) {
                int winner = i < winners.size() ? winners.get(i) : -1;
                Check.due(m.line() + " winner " + kind + " " + i, x.winner(kind, i), winner);
            }
            int part = winners.isEmpty() ? 0 : money[kind] / winners.size();
            Check.due(m.line() + " prize " + kind, x.prize(kind, 0), part);
            Check.due(m.line() + " prize left " + kind, x.prize(kind, 1), money[kind] - part * winners.size());
            int more = kind == 2 && first <= by ? 777 / winners.size() : 0;
            if (kind == 2) {
                Check.due(m.line() + " jackpot", x.jackpot(0), more * winners.size());
                Check.due(m.line() + " missed", x.jackpot(1), first <= by ? 0 : first - by);
            }
            for (int winner : winners) {
                wins[winner / 10] += part + more;
            }
        }
        for (int place = 0; place < wins.length; place++) {
            Check.due(m.line() + " wins " + place, x.wins(place), wins[place]);
        }
        shared(x, m, Arrays.stream(wins).sum());
        races(x, m, strips, calls);
    }

    private static void shared(BingoHall x, Model m, int won) {
        long[] paid = {3, 9999, 7, 1000, 1};
        long sum = Arrays.stream(paid).sum();
        Check.put(x, 3, paid);
        long rest = won;
        for (int i = paid.length - 1; i >= 0; i--) {
            long part = i == 0 ? rest : won * paid[i] / sum;
            rest -= part;
            Check.due(m.line() + " share " + i, x.share(3, i), part);
        }
    }

    private static void races(BingoHall x, Model m, List<int[][][]> strips, int[] calls) {
        for (int kind = 0; kind < 3; kind++) {
            List<int[]> order = new ArrayList<>();
            for (int place = 0; place < strips.size(); place++) {
                int turn = Model.first(strips.subList(place, place + 1), kind, calls);
                if (turn != -1) {
                    order.add(new int[] {turn, place});
                }
            }
            order.sort((one, other) -> one[0] != other[0] ? one[0] - other[0] : one[1] - other[1]);
            for (int i = 0; i <= strips.size(); i++) {
                Check.due(m.line() + " race " + kind + " " + i, x.race(kind, i), i < order.size() ? order.get(i)[1] : -1);
            }
        }
    }

    private static void sweating(BingoHall x, Model m, List<int[][][]> strips, int[] calls) {
        for (int kind = 0; kind < 3; kind++) {
            for (int n = 0; n <= m.numbers; n += 1 + m.numbers / 8) {
                boolean[] called = Model.calledBy(calls, n);
                int sweat = 0;
                int nearest = Integer.MAX_VALUE;
                for (int[][][] strip : strips) {
                    for (int[][] card : strip) {
                        int lacks = Model.lacks(card, kind, called);
                        sweat += lacks == 1 ? 1 : 0;
                        nearest = lacks == -1 ? -1 : Math.min(nearest, lacks);
                    }
                }
                Check.due(m.line() + " sweat " + kind + " " + n, x.sweat(kind, n), sweat);
                Check.due(m.line() + " nearest " + kind + " " + n, x.nearest(kind, n), nearest);
            }
            for (int n = 1; n <= strips.size(); n++) {
                for (int m2 = 1; m2 <= 8; m2 += n == 2 ? 1 : 3) {
                    int first = (n + m2) % (strips.size() - n + 1);
                    int want = Model.slow(strips.subList(first, first + n), m2, kind, calls);
                    Check.due(m.line() + " slow " + first + " " + n + " " + m2 + " " + kind, x.slow(first, n, m2, kind), want);
                }
            }
        }
        List<Long> places = new ArrayList<>();
        for (int row = 0; row < m.rows; row++) {
            places.add(10L * row + (row * 2 + 1) % m.columns);
        }
        shapesOfSold(x, m, strips, calls, places);
    }

    private static void shapesOfSold(BingoHall x, Model m, List<int[][][]> strips, int[] calls, List<Long> places) {
        Check.putCut(x, 0, 0, places.stream().mapToLong(Long::longValue).toArray());
        int first = Integer.MAX_VALUE;
        int winner = -1;
        for (int place = 0; place < strips.size(); place++) {
            for (int card = 0; card < m.cards; card++) {
                int turn = 0;
                for (long at : places) {
                    turn = Math.max(turn, turnOf(calls, strips.get(place)[card][(int) at / 10][(int) at % 10]));
                }
                if (turn < first) {
                    first = turn;
                    winner = 10 * place + card;
                }
            }
        }
        Check.due(m.line() + " shape", x.shape(0, 0), first);
        Check.due(m.line() + " shape winner", x.shape(0, 1), winner);
    }

    private static void evenings(BingoHall x, Model m, List<int[][][]> strips) {
        for (int kind = 0; kind < 3; kind++) {
            for (int n : new int[] {1, 5, 20}) {
                int sum = 0;
                int fewest = Integer.MAX_VALUE;
                int parted = 0;
                for (int evening = 0; evening < n; evening++) {
                    int[] calls = m.calls(2000000000 - 3 + evening);
                    int first = Model.first(strips, kind, calls);
                    int took = first == -1 ? m.numbers + 1 : first;
                    sum += took;
                    fewest = Math.min(fewest, took);
                    parted += Model.winners(strips, kind, calls).size() > 1 ? 1 : 0;
                }
                int seed = 2000000000 - 3;
                Check.due(m.line() + " evenings sum " + kind + " " + n, x.evenings(seed, n, kind, 0), sum);
                Check.due(m.line() + " evenings fewest " + kind + " " + n, x.evenings(seed, n, kind, 1), fewest);
                Check.due(m.line() + " evenings parted " + kind + " " + n, x.evenings(seed, n, kind, 2), parted);
            }
        }
    }

    private static void chances(Model m) {
        for (int kind = 0; kind < 3; kind++) {
            BingoHall x = Check.hall(m.line());
            long[] ahead = {0, 1};
            int likely = -1;
            for (int n = 0; n <= m.numbers; n++) {
                String call = m.line() + " " + kind + " " + n;
                fraction("chance " + call, x.chance(kind, n, 0), x.chance(kind, n, 1), m.chosen(kind, n, 1));
                if (kind != 1) {
                    long[] some = m.chosen(kind, n, m.cards);
                    fraction("some " + call, x.some(kind, n, 0), x.some(kind, n, 1), some);
                    long[] just = {some[0] * ahead[1] - ahead[0] * some[1], some[1] * ahead[1]};
                    if (n > 0) {
                        fraction("just " + call, x.just(kind, n, 0), x.just(kind, n, 1), just);
                    }
                    likely = likely == -1 && some[0] * 3 >= some[1] * 2 ? n : likely;
                    ahead = some;
                }
            }
            if (kind != 1) {
                Check.due("likely " + m.line() + " " + kind, x.likely(kind, 2, 3), likely);
            }
        }
    }

    private static void fraction(String call, long above, long below, long[] due) {
        long divisor = Model.gcd(due[0], due[1]);
        Check.due(call + " above", above, due[0] / divisor);
        Check.due(call + " below", below, due[1] / divisor);
    }
}
