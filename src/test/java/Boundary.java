import java.io.IOException;
import java.math.BigInteger;
import java.nio.file.Files;
import java.nio.file.Path;
import java.util.Map;
import java.util.Set;
import java.util.TreeMap;
import java.util.TreeSet;
import java.util.regex.Matcher;
import java.util.regex.Pattern;

/**
 * What the tests of boundaries share: each names a promise (0: the Terms) and the sentence of the
 * document that its answers are about, and asks on both sides of it.
 */
abstract class Boundary {
    static final int MAX = Integer.MAX_VALUE;
    static final int MIN = Integer.MIN_VALUE;

    /**
     * Eight NUMBERS: 1 2 3, 4 5 6, 7 8. CALLS of seed 1: 4 1 6 3 5 2 8 7. STRIPS:
     * serial 0 and 1: 0 4 7 / 2 6 0 and 1 0 8 / 3 5 0; 2: 1 4 0 / 3 0 8 and 0 5 7 / 2 6 0;
     * 3: 2 4 0 / 3 0 8 and 1 5 0 / 0 6 7; 7: 1 4 0 / 0 5 8 and 2 0 7 / 3 6 0;
     * 9999: 1 6 0 / 3 0 8 and 0 4 7 / 2 5 0.
     */
    static final String EIGHT = "hall cards 2 rows 2 each 2 columns 3 3 2;";
    static final String SOLD_EIGHT = EIGHT + "sold 0; sold 2; sold 3; sold 7;";
    /** Two NUMBERS, one row: each STRIP is 1 2. CALLS of seed 1: 2 1. */
    static final String TWO = "hall cards 1 rows 1 each 2 columns 1 1;";
    /** Two NUMBERS, two rows of one. Serials 0, 1, 4, 5: 0 2 / 1 0; 2, 3: 1 0 / 0 2. */
    static final String CROSS = "hall cards 1 rows 2 each 1 columns 1 1;";
    /** Each STRIP is 1 4 / 2 5 / 3 6. */
    static final String THREE_ROWS = "hall cards 1 rows 3 each 2 columns 3 3;";
    static final String LARGEST = "hall cards 3 rows 3 each 5 columns 9 9 9 9 9;";
    static final String ALL_SOLD = LARGEST
        + "sold 0; sold 1; sold 2; sold 3; sold 4; sold 5; sold 6; sold 7;";

    /** A sign of a boundary in the document: a sentence with one must be named by a test. */
    private static final Pattern MARK = Pattern.compile(
        "NONE|-[2-8]\\b|\\.\\. ?[\\d(]|\\.\\. [A-Z]|\\b[0-9]: |\\(0|at most|at least|more than|not so many|fewest|asked last"
        + "|without|just|modulo|likewise|in place of|beyond|empty|left over|so much|stays?\\b|as they were");

    private static final Map<Integer, String> SECTIONS = sections();
    private static final Map<Integer, boolean[]> NAMED = new TreeMap<>();
    private static final Set<Long> SIDES = new TreeSet<>();
    private static int promise = 0;
    private static String sentence = null;

    interface Asked {
        long of(int it);
    }

    private static Map<Integer, String> sections() {
        Map<Integer, String> found = new TreeMap<>();
        try {
            String document = Files.readString(Path.of("../shared/DOC.md")).replaceAll("\\s+", " ");
            String face = document.replaceAll("## The public face.*?## Terms", "## Terms");
            Matcher heads = Pattern.compile("(## Promise (\\d+): |## Not promised)").matcher(face);
            int number = 0;
            int from = 0;
            while (heads.find()) {
                found.put(number, withoutHead(face.substring(from, heads.start())));
                number = heads.group(2) == null ? -1 : Integer.parseInt(heads.group(2));
                from = heads.end();
            }
            found.put(-1, face.substring(from));
        } catch (IOException e) {
            System.out.println("../shared/DOC.md can't be read: " + e);
            System.exit(1);
        }
        return found;
    }

    private static String withoutHead(String section) {
        int at = section.indexOf("`: ");
        return section.startsWith("# ") ? section : section.substring(at < 0 ? 0 : at + 3);
    }

    /** The answers that follow are about this sentence. */
    static void says(int itsPromise, String itsSentence) {
        endSentence();
        promise = itsPromise;
        sentence = itsSentence;
        String section = SECTIONS.getOrDefault(promise, "");
        int at = section.indexOf(sentence);
        Check.due(promise + ": the document says \"" + sentence + "\"", at < 0 ? 0 : 1, 1);
        boolean[] named = NAMED.computeIfAbsent(promise, key -> new boolean[section.length()]);
        for (int i = at; at >= 0 && i < at + sentence.length(); i++) {
            named[i] = true;
        }
    }

    static void due(String call, long got, long want) {
        SIDES.add(want);
        Check.due("promise " + promise + ", \"" + sentence + "\": " + call, got, want);
    }

    /** A test sits on both sides: not all of its answers are alike. */
    private static void endSentence() {
        if (sentence != null) {
            Check.due("promise " + promise + ", \"" + sentence + "\": both sides", SIDES.size() > 1 ? 1 : 0, 1);
        }
        SIDES.clear();
    }

    /** Whether each sign of a boundary in the document is in a sentence that was named. */
    static void endAll() {
        endSentence();
        Check.due("sections", SECTIONS.size(), 58);
        for (int number = 0; number <= 56; number++) {
            String section = SECTIONS.getOrDefault(number, "");
            boolean[] named = NAMED.getOrDefault(number, new boolean[section.length()]);
            Check.due("promise " + number + " has a test", NAMED.containsKey(number) ? 1 : 0, 1);
            Matcher marks = MARK.matcher(section);
            while (marks.find()) {
                String place = section.substring(Math.max(0, marks.start() - 30), Math.min(section.length(), marks.end() + 30));
                Check.due("promise " + number + " is named at \".." + place + "..\"", named[marks.start()] ? 1 : 0, 1);
            }
        }
        Check.end();
    }

    /** Asks what has bounds at both of them, next to them, and as far as can be. */
    static void within(String call, long refused, int least, long atLeast, int most, long atMost, Asked asked) {
        due(call + " " + least, asked.of(least), atLeast);
        due(call + " " + most, asked.of(most), atMost);
        due(call + " " + (least - 1), asked.of(least - 1), refused);
        due(call + " " + (most + 1), asked.of(most + 1), refused);
        due(call + " " + MIN, asked.of(MIN), refused);
        due(call + " " + MAX, asked.of(MAX), refused);
    }

    static void fraction(String call, long above, long below, long dueAbove, long dueBelow) {
        due(call + " above", above, dueAbove);
        due(call + " below", below, dueBelow);
    }

    static void calls(String call, BingoHall x, int... numbers) {
        for (int i = 0; i < numbers.length; i++) {
            due(call + " call " + i, x.call(i), numbers[i]);
        }
        due(call + " behind", x.call(numbers.length), -1);
    }

    static void good(String text, int lines) {
        BingoHall x = new BingoHall();
        due("hall() of " + text, Check.read(x, text), lines);
        due("fault(0) of " + text, x.fault(0), 0);
        due("fault(1) of " + text, x.fault(1), -1);
    }

    /** A FAULT at the first byte of the second text. */
    static void bad(int fault, String ahead, String from) {
        BingoHall x = new BingoHall();
        due("hall() of " + ahead + from, Check.read(x, ahead + from), -4);
        due("fault(0) of " + ahead + from, x.fault(0), fault);
        due("fault(1) of " + ahead + from, x.fault(1), ahead.length());
    }

    /** DRAWS told in whole numbers of any length, by the words of VI. */
    static final class Draws {
        private static final BigInteger ROUND = BigInteger.valueOf(2147483648L);
        private BigInteger x;

        Draws(long seed) {
            x = BigInteger.valueOf(seed);
        }

        int draw(int n) {
            BigInteger a = step();
            BigInteger b = step();
            return a.multiply(BigInteger.valueOf(32768)).add(b).mod(BigInteger.valueOf(n)).intValue();
        }

        private BigInteger step() {
            x = x.multiply(BigInteger.valueOf(1103515245L)).add(BigInteger.valueOf(12345)).mod(ROUND);
            return x.divide(BigInteger.valueOf(65536));
        }

        int[] mixed(int n) {
            int[] row = new int[n];
            for (int i = 0; i < n; i++) {
                row[i] = i + 1;
            }
            for (int place = n - 1; place >= 1; place--) {
                int other = draw(place + 1);
                int it = row[place];
                row[place] = row[other];
                row[other] = it;
            }
            return row;
        }
    }
}
