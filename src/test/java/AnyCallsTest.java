import java.lang.reflect.Method;
import java.util.ArrayList;
import java.util.Arrays;
import java.util.Comparator;
import java.util.List;

/**
 * Runs of any calls with any arguments. None may throw, and the calls that only ask, or are
 * refused, change nothing: an object that is spared them answers alike in the end.
 */
public final class AnyCallsTest {
    private static final List<String> CHANGING = List.of(
        "feed", "end", "hall", "sell", "unsell", "caller", "calls", "keep", "back", "row", "write", "paste");
    private static final String[] HALLS = {
        "",
        "hall cards 1 rows 1 each 2 columns 1 1; sold 5; prize row 10;",
        "hall cards 1 rows 2 each 1 columns 1 1; sold 4; sold 3; prize two 9; jackpot 7 by 2;",
        "hall cards 2 rows 2 each 2 columns 3 3 2; sold 0; sold 2; sold 3; sold 7; prize house 1000; jackpot 999 by 7;",
        "hall cards 3 rows 3 each 3 columns 6 6 6 5 4; prize row 100; prize house 5000; sold 12; caller 7;",
        "hall cards 3 rows 3 each 5 columns 9 9 9 9 9; sold 1; sold 2; sold 3; sold 4; sold 5; sold 6; sold 7; sold 8;",
        "hall cards 3 rows 1 each 1 columns 2 2;",
        "hall cards 1 rows 3 each 5 columns 3 3 3 3 3; prize row",
    };
    private static final long[] FAR = {
        Integer.MIN_VALUE, Integer.MAX_VALUE, Integer.MIN_VALUE + 1, -1, -2, 10000, 9999, 2000000000,
        2000000001, 45, 46, 60, 61, 800, 801, 1000, 1001, 100, Long.MAX_VALUE, Long.MIN_VALUE,
    };
    private static long x = 77;

    public static void main(String[] args) {
        Method[] methods = BingoHall.class.getDeclaredMethods();
        List<Method> open = new ArrayList<>();
        for (Method method : methods) {
            if (java.lang.reflect.Modifier.isPublic(method.getModifiers())) {
                open.add(method);
            }
        }
        open.sort(Comparator.comparing(Method::getName));
        for (int run = 0; run < 400; run++) {
            oneRun(open, run);
        }
        Check.end();
    }

    private static void oneRun(List<Method> open, int run) {
        BingoHall one = new BingoHall();
        BingoHall spared = new BingoHall();
        for (int call = 0; call < 500; call++) {
            if (draw(40) == 0) {
                String text = HALLS[draw(HALLS.length)];
                Check.due("run " + run, Check.read(one, text), Check.read(spared, text));
                continue;
            }
            Method method = open.get(draw(open.size()));
            Object[] arguments = arguments(method);
            long answer = ask(one, method, arguments);
            boolean isChange = CHANGING.contains(method.getName()) && answer >= 0 || method.getName().equals("hall");
            if (isChange) {
                Check.due("run " + run + " " + method.getName(), ask(spared, method, arguments), answer);
            }
        }
        long[] seen = look(one);
        long[] due = look(spared);
        for (int i = 0; i < due.length; i++) {
            Check.due("run " + run + " look " + i, seen[i], due[i]);
        }
    }

    private static long ask(BingoHall it, Method method, Object[] arguments) {
        try {
            return ((Number) method.invoke(it, arguments)).longValue();
        } catch (ReflectiveOperationException e) {
            System.out.println(method.getName() + Arrays.toString(arguments) + " threw " + e.getCause());
            System.exit(1);
            return 0;
        }
    }

    private static Object[] arguments(Method method) {
        Class<?>[] types = method.getParameterTypes();
        Object[] arguments = new Object[types.length];
        for (int i = 0; i < types.length; i++) {
            long value = value();
            if (types[i] == long.class) {
                arguments[i] = value;
            } else {
                arguments[i] = (int) value;
            }
        }
        return arguments;
    }

    private static long value() {
        int way = draw(20);
        if (way == 0) {
            return FAR[draw(FAR.length)];
        }
        return way < 14 ? draw(4) : draw(12) - 1;
    }

    private static int draw(int n) {
        x = x * 6364136223846793005L + 1442695040888963407L;
        return (int) ((x >>> 33) % n);
    }

    /** All that can be seen of an object that further calls could answer by. */
    private static long[] look(BingoHall it) {
        List<Long> seen = new ArrayList<>();
        lookAtHall(it, seen);
        for (int slot = 0; slot < 4; slot++) {
            seen.add((long) it.judge(slot));
            seen.add((long) it.layouts(slot));
            seen.add((long) it.shape(slot, 1));
            seen.add((long) it.share(slot, 0));
            seen.add((long) it.write(slot, 59, 1));
        }
        for (int k = 0; k < 3; k++) {
            seen.add((long) it.back(k));
            lookAtHall(it, seen);
        }
        return seen.stream().mapToLong(Long::longValue).toArray();
    }

    private static void lookAtHall(BingoHall it, List<Long> seen) {
        for (int what = 0; what < 11; what++) {
            seen.add((long) it.count(what));
        }
        for (int i = 0; i < 45; i++) {
            seen.add((long) it.call(i));
            seen.add((long) it.called(i + 1));
        }
        for (int i = 0; i < 8; i++) {
            seen.add((long) it.sold(i));
            seen.add((long) it.wins(i));
        }
        for (int what = 0; what < 2; what++) {
            seen.add((long) it.fault(what));
            seen.add((long) it.jackpot(what));
        }
        for (int kind = 0; kind < 3; kind++) {
            seen.add((long) it.first(kind));
            seen.add((long) it.winner(kind, -1));
            seen.add((long) it.prize(kind, 0));
            seen.add((long) it.prize(kind, 1));
            seen.add((long) it.evenings(3, 4, kind, 0));
        }
        seen.add((long) it.plans());
        for (int column = 0; column < 5; column++) {
            seen.add((long) it.column(column, 0));
            seen.add((long) it.column(column, 1));
            seen.add((long) it.plan(1, 0, column));
            seen.add((long) it.cell(77, 0, 0, column));
        }
    }
}
