import java.util.ArrayList;
import java.util.Arrays;
import java.util.List;

/** The document's terms told once more, in the slowest and plainest way: by listing all there is. */
final class Model {
    final int cards;
    final int rows;
    final int each;
    final int[] sizes;
    final int columns;
    final int numbers;
    final List<int[][]> plans = new ArrayList<>();
    private long x;

    Model(int cards, int rows, int each, int... sizes) {
        this.cards = cards;
        this.rows = rows;
        this.each = each;
        this.sizes = sizes;
        columns = sizes.length;
        numbers = Arrays.stream(sizes).sum();
        listPlans(new int[cards][columns], 0);
    }

    String line() {
        StringBuilder text = new StringBuilder("hall cards " + cards + " rows " + rows + " each " + each + " columns");
        for (int size : sizes) {
            text.append(' ').append(size);
        }
        return text.append(';').toString();
    }

    private void listPlans(int[][] plan, int at) {
        if (at == cards * columns) {
            for (int column = 0; column < columns; column++) {
                int sum = 0;
                for (int[] card : plan) {
                    sum += card[column];
                }
                if (sum != sizes[column]) {
                    return;
                }
            }
            int[][] copy = new int[cards][];
            for (int card = 0; card < cards; card++) {
                copy[card] = plan[card].clone();
            }
            plans.add(copy);
            return;
        }
        int card = at / columns;
        for (int many = 1; many <= rows; many++) {
            plan[card][at % columns] = many;
            boolean isLast = at % columns == columns - 1;
            if (!isLast || Arrays.stream(plan[card]).sum() == rows * each) {
                listPlans(plan, at + 1);
            }
        }
    }

    List<int[]> layouts(int[] counts) {
        List<int[]> found = new ArrayList<>();
        int sets = 1 << columns;
        int codes = 1;
        for (int row = 0; row < rows; row++) {
            codes *= sets;
        }
        for (int code = 0; code < codes; code++) {
            int[] layout = new int[rows];
            int rest = code;
            for (int row = rows - 1; row >= 0; row--) {
                layout[row] = rest % sets;
                rest /= sets;
            }
            if (isLayout(layout, counts)) {
                found.add(layout);
            }
        }
        return found;
    }

    private boolean isLayout(int[] layout, int[] counts) {
        for (int set : layout) {
            if (Integer.bitCount(set) != each) {
                return false;
            }
        }
        for (int column = 0; column < columns; column++) {
            int sum = 0;
            for (int set : layout) {
                sum += set >> column & 1;
            }
            if (sum != counts[column]) {
                return false;
            }
        }
        return true;
    }

    private int draw(int n) {
        x = Math.floorMod(1103515245L * x + 12345L, 2147483648L);
        long a = x >> 16;
        x = Math.floorMod(1103515245L * x + 12345L, 2147483648L);
        long b = x >> 16;
        return (int) ((32768L * a + b) % n);
    }

    private List<Integer> mixed(int from, int many) {
        List<Integer> row = new ArrayList<>();
        for (int i = 0; i < many; i++) {
            row.add(from + i);
        }
        for (int place = many - 1; place >= 1; place--) {
            int other = draw(place + 1);
            int it = row.get(place);
            row.set(place, row.get(other));
            row.set(other, it);
        }
        return row;
    }

    int made(int serial) {
        x = serial;
        return draw(plans.size());
    }

    /** [card][row][column] */
    int[][][] strip(int serial) {
        int[][] plan = plans.get(made(serial));
        int[][][] strip = new int[cards][rows][columns];
        int[][] layout = new int[cards][];
        for (int card = 0; card < cards; card++) {
            List<int[]> all = layouts(plan[card]);
            layout[card] = all.get(draw(all.size()));
        }
        int from = 1;
        for (int column = 0; column < columns; column++) {
            List<Integer> row = mixed(from, sizes[column]);
            from += sizes[column];
            for (int card = 0; card < cards; card++) {
                List<Integer> hand = new ArrayList<>(row.subList(0, plan[card][column]));
                row = row.subList(plan[card][column], row.size());
                hand.sort(null);
                for (int r = 0; r < rows; r++) {
                    if ((layout[card][r] >> column & 1) == 1) {
                        strip[card][r][column] = hand.remove(0);
                    }
                }
            }
        }
        return strip;
    }

    int[] calls(int seed) {
        x = seed;
        return mixed(1, numbers).stream().mapToInt(Integer::intValue).toArray();
    }

    static boolean[] calledBy(int[] calls, int n) {
        boolean[] called = new boolean[calls.length + 1];
        for (int i = 0; i < n; i++) {
            called[calls[i]] = true;
        }
        return called;
    }

    /** How many NUMBERS each row lacks. */
    static int[] lacksOfRows(int[][] card, boolean[] called) {
        int[] lacks = new int[card.length];
        for (int row = 0; row < card.length; row++) {
            for (int number : card[row]) {
                if (number > 0 && !called[number]) {
                    lacks[row]++;
                }
            }
        }
        return lacks;
    }

    static int lacks(int[][] card, int kind, boolean[] called) {
        int[] lacks = lacksOfRows(card, called);
        if (kind == 2) {
            return Arrays.stream(lacks).sum();
        }
        int fewest = BingoHall.NONE;
        for (int one = 0; one < lacks.length; one++) {
            for (int other = one; other < lacks.length; other++) {
                if ((one == other) == (kind == 0)) {
                    int sum = kind == 0 ? lacks[one] : lacks[one] + lacks[other];
                    fewest = fewest == BingoHall.NONE ? sum : Math.min(fewest, sum);
                }
            }
        }
        return fewest;
    }

    static int done(int[][] card, int kind, int[] calls) {
        for (int n = 0; n <= calls.length; n++) {
            if (lacks(card, kind, calledBy(calls, n)) == 0) {
                return n;
            }
        }
        return BingoHall.NONE;
    }

    /** First CALL by which a CARD of some STRIPS has a KIND. */
    static int first(List<int[][][]> strips, int kind, int[] calls) {
        int first = BingoHall.NONE;
        for (int[][][] strip : strips) {
            for (int[][] card : strip) {
                int done = done(card, kind, calls);
                if (done != BingoHall.NONE && (first == BingoHall.NONE || done < first)) {
                    first = done;
                }
            }
        }
        return first;
    }

    static List<Integer> winners(List<int[][][]> strips, int kind, int[] calls) {
        List<Integer> winners = new ArrayList<>();
        int first = first(strips, kind, calls);
        for (int place = 0; place < strips.size() && first != BingoHall.NONE; place++) {
            for (int card = 0; card < strips.get(place).length; card++) {
                if (done(strips.get(place)[card], kind, calls) == first) {
                    winners.add(10 * place + card);
                }
            }
        }
        return winners;
    }

    /** Goes through the times of a CALL one by one, with all daubs that wait in a row. */
    static int slow(List<int[][][]> mine, int m, int kind, int[] calls) {
        int numbers = calls.length;
        List<boolean[]> daubed = new ArrayList<>();
        for (int i = 0; i < mine.size(); i++) {
            daubed.add(new boolean[numbers + 1]);
        }
        List<int[]> waiting = new ArrayList<>();
        int at = 0;
        for (int time = 1; time <= 9 * numbers; time++) {
            if (time <= numbers) {
                for (int place = 0; place < mine.size(); place++) {
                    waiting.add(new int[] {place, calls[time - 1]});
                }
            }
            for (int i = 0; i < m && at < waiting.size(); i++) {
                daubed.get(waiting.get(at)[0])[waiting.get(at)[1]] = true;
                at++;
            }
            for (int place = 0; place < mine.size(); place++) {
                for (int[][] card : mine.get(place)) {
                    if (lacks(card, kind, daubed.get(place)) == 0) {
                        return time;
                    }
                }
            }
        }
        return BingoHall.NONE;
    }

    /** In how many sets of n NUMBERS of a STRIP its first CARDS have a KIND, and how many sets there are. */
    long[] chosen(int kind, int n, int lookedAt) {
        int[][][] strip = strip(0);
        long[] counts = new long[2];
        for (int bits = 0; bits < 1 << numbers; bits++) {
            if (Integer.bitCount(bits) == n) {
                boolean[] called = new boolean[numbers + 1];
                for (int number = 1; number <= numbers; number++) {
                    called[number] = (bits >> number - 1 & 1) == 1;
                }
                counts[1]++;
                boolean has = false;
                for (int card = 0; card < lookedAt; card++) {
                    has |= lacks(strip[card], kind, called) == 0;
                }
                counts[0] += has ? 1 : 0;
            }
        }
        return counts;
    }

    static long gcd(long a, long b) {
        return b == 0 ? a : gcd(b, a % b);
    }
}
