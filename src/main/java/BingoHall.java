import java.util.Arrays;

/**
 * Numbers called: a hall told as a text, its strips, what is sold, its calls, and who wins.
 * The document (../shared/DOC.md) says what each method answers; words in capitals are its terms.
 */
public final class BingoHall {
    public static final int NONE = -1;

    private static final int MISSING = -2;
    private static final int REFUSED = -3;
    private static final int FAULTY = -4;
    private static final int TWICE = -5;
    private static final int NOTHING = -6;
    private static final int BEYOND = -7;
    private static final int UNLIKE = -8;

    private static final int MOST_CARDS = 3;
    private static final int MOST_ROWS = 3;
    private static final int MOST_EACH = 5;
    private static final int MOST_COLUMNS = 5;
    private static final int LEAST_COLUMNS = 2;
    private static final int MOST_OF_A_COLUMN = 15;
    /** Three CARDS of three rows have at most five NUMBERS, and five places, in each row. */
    private static final int MOST_CELLS = 45;
    private static final int MOST_SOLD = 8;
    private static final int MOST_BYTES = 800;
    private static final int FED_BYTES = 20;
    private static final int LAST_SERIAL = 9999;
    private static final int MOST_MONEY = 9999;
    private static final int LAST_TOLD_SEED = 99999;
    private static final int LAST_SEED = 2000000000;
    private static final int BOOK_SERIALS = 40;
    private static final int MOST_EVENINGS = 20;
    private static final int MOST_LIKELY = 1000;
    private static final int IMAGES = 3;
    private static final int SLOTS = 4;

    private static final int ROW = 0;
    private static final int TWO = 1;
    private static final int HOUSE = 2;
    private static final int KINDS = 3;

    private Hall now = new Hall();
    private Hall next = new Hall();
    private final Hall[] images = new Hall[IMAGES];
    private final boolean[] kept = new boolean[IMAGES];
    private final Dealer dealer = new Dealer();
    private final Reader reader = new Reader();
    private final Slots slots = new Slots();
    private final Card view = new Card();
    private final int[] oneStrip = new int[MOST_CELLS];
    private final int[] otherStrip = new int[MOST_CELLS];
    private final int[][] bookStrips = new int[BOOK_SERIALS][MOST_CELLS];
    private final int[] bookSerials = new int[BOOK_SERIALS];
    private final int[] thoughtCalls = new int[MOST_CELLS];
    private final int[] thoughtTurns = new int[MOST_CELLS + 1];

    public BingoHall() {
        for (int k = 0; k < IMAGES; k++) {
            images[k] = new Hall();
        }
    }

    // The TAPE and the HALL.

    public int feed(int a, int b, int c, int d, int e) {
        if (reader.tapeLength > MOST_BYTES - FED_BYTES) {
            return NONE;
        }
        reader.addFour(a);
        reader.addFour(b);
        reader.addFour(c);
        reader.addFour(d);
        reader.addFour(e);
        return reader.tapeLength;
    }

    public int end(int n) {
        if (n < 0 || n > reader.tapeLength) {
            return NONE;
        }
        reader.tapeLength = n;
        return n;
    }

    public int hall() {
        reader.begin(next);
        for (int i = 0; i < MOST_BYTES && reader.hasLine(); i++) {
            reader.readLine(next);
        }
        reader.tapeLength = 0;
        if (reader.fault != 0) {
            return FAULTY;
        }
        dealer.mixCalls(next.form, reader.seed, next.calls);
        next.noteTurns();
        Hall old = now;
        now = next;
        next = old;
        return now.lines;
    }

    public int fault(int what) {
        if (what == 0) {
            return reader.fault;
        }
        return what == 1 ? reader.spot : NONE;
    }

    public int column(int column, int what) {
        if (!isColumn(column) || what < 0 || what > 1) {
            return MISSING;
        }
        return what == 0 ? now.form.firsts[column] : now.form.sizes[column];
    }

    public int numbers() {
        return isHall() ? now.form.numbers : MISSING;
    }

    // PLANS, LAYOUTS, STRIPS.

    public int plans() {
        return isHall() ? now.form.plans : MISSING;
    }

    public int plan(int i, int card, int column) {
        if (!isCard(card) || !isColumn(column)) {
            return MISSING;
        }
        if (i < 0 || i >= now.form.plans) {
            return NONE;
        }
        return dealer.planned(now.form, i, card, column);
    }

    public int layouts(int slot) {
        if (!isHall() || !slots.isSlot(slot)) {
            return MISSING;
        }
        if (!slots.hasRow(slot)) {
            return NOTHING;
        }
        Form form = now.form;
        if (slots.lengthOf(slot) != form.columns) {
            return BEYOND;
        }
        int counts = 0;
        for (int column = 0; column < form.columns; column++) {
            long many = slots.valueAt(slot, column);
            if (many < 0 || many > form.rows) {
                return 0;
            }
            counts += Parts.packed(column, (int) many);
        }
        return Parts.waysOf(form.sets, form.rows, counts);
    }

    public int made(int serial) {
        return isSerial(serial) ? dealer.drawnPlan(now.form, serial) : MISSING;
    }

    public int cell(int serial, int card, int row, int column) {
        if (!isSerial(serial) || !isCard(card) || row < 0 || row >= now.form.rows || !isColumn(column)) {
            return MISSING;
        }
        dealer.deal(now.form, serial, oneStrip);
        return oneStrip[now.form.placeOf(card, row, column)];
    }

    public int where(int serial, int number) {
        if (!isSerial(serial) || !isNumber(number)) {
            return MISSING;
        }
        dealer.deal(now.form, serial, oneStrip);
        for (int card = 0; card < now.form.cards; card++) {
            for (int row = 0; row < now.form.rows; row++) {
                for (int column = 0; column < now.form.columns; column++) {
                    if (oneStrip[now.form.placeOf(card, row, column)] == number) {
                        return 100 * card + 10 * row + column;
                    }
                }
            }
        }
        return MISSING;
    }

    public int same(int serial, int other) {
        if (!isSerial(serial) || !isSerial(other)) {
            return MISSING;
        }
        dealer.deal(now.form, serial, oneStrip);
        dealer.deal(now.form, other, otherStrip);
        return areSame(oneStrip, otherStrip) ? 1 : 0;
    }

    public int alike(int serial, int card, int other, int second) {
        if (!isSerial(serial) || !isCard(card) || !isSerial(other) || !isCard(second)) {
            return MISSING;
        }
        dealer.deal(now.form, serial, oneStrip);
        dealer.deal(now.form, other, otherStrip);
        return Long.bitCount(now.form.numbersOf(oneStrip, card) & now.form.numbersOf(otherStrip, second));
    }

    // What is SOLD.

    public int sell(int serial) {
        if (!isSerial(serial)) {
            return MISSING;
        }
        if (now.soldCount >= MOST_SOLD) {
            return REFUSED;
        }
        dealer.deal(now.form, serial, oneStrip);
        if (now.hasSold(oneStrip)) {
            return TWICE;
        }
        now.addSold(serial, oneStrip);
        return now.soldCount;
    }

    public int unsell() {
        if (!isHall()) {
            return MISSING;
        }
        if (now.soldCount < 1) {
            return 0;
        }
        now.soldCount--;
        return 1;
    }

    public int sold(int i) {
        return isPlace(i) ? now.sold[i] : NONE;
    }

    // CALLS and what they do on a CARD.

    public int caller(int seed) {
        if (!isHall() || seed < 0 || seed > LAST_SEED) {
            return MISSING;
        }
        dealer.mixCalls(now.form, seed, now.calls);
        now.noteTurns();
        return 0;
    }

    public int calls(int slot) {
        if (!isHall() || !slots.isSlot(slot)) {
            return MISSING;
        }
        if (!slots.hasRow(slot)) {
            return NOTHING;
        }
        if (!isEachNumberOnce(slot)) {
            return MISSING;
        }
        for (int i = 0; i < now.form.numbers; i++) {
            now.calls[i] = (int) slots.valueAt(slot, i);
        }
        now.noteTurns();
        return 0;
    }

    private boolean isEachNumberOnce(int slot) {
        if (slots.lengthOf(slot) != now.form.numbers) {
            return false;
        }
        long seen = 0;
        for (int i = 0; i < now.form.numbers; i++) {
            long value = slots.valueAt(slot, i);
            if (value < 1 || value > now.form.numbers || (seen >> value & 1) == 1) {
                return false;
            }
            seen |= 1L << value;
        }
        return true;
    }

    public int call(int i) {
        return isHall() && i >= 0 && i < now.form.numbers ? now.calls[i] : NONE;
    }

    public int called(int number) {
        return isNumber(number) ? now.turns[number] : MISSING;
    }

    public int daubs(int serial, int card, int n) {
        if (!isSerial(serial) || !isCard(card) || !isTime(n)) {
            return MISSING;
        }
        return cardOf(serial, card).daubedBy(n);
    }

    public int full(int serial, int card, int n) {
        if (!isSerial(serial) || !isCard(card) || !isTime(n)) {
            return MISSING;
        }
        return cardOf(serial, card).fullRowsBy(n);
    }

    public int lacks(int serial, int card, int kind, int n) {
        if (!isSerial(serial) || !isCard(card) || !isKind(kind) || !isTime(n)) {
            return MISSING;
        }
        return cardOf(serial, card).lackOf(kind, n);
    }

    public int done(int serial, int card, int kind) {
        if (!isSerial(serial) || !isCard(card) || !isKind(kind)) {
            return MISSING;
        }
        return cardOf(serial, card).turnOf(kind);
    }

    public int claim(int serial, int card, int kind, int n) {
        if (!isSerial(serial) || !isCard(card) || !isKind(kind) || !isTime(n) || n == 0) {
            return MISSING;
        }
        int turn = cardOf(serial, card).turnOf(kind);
        if (turn == NONE || turn > n) {
            return 1;
        }
        return turn == n ? 0 : 2;
    }

    // Who is first, and what that brings.

    public int first(int kind) {
        return isKind(kind) ? firstTurn(kind, now.turns) : MISSING;
    }

    public int winner(int kind, int what) {
        if (!isKind(kind) || what < NONE) {
            return MISSING;
        }
        int turn = firstTurn(kind, now.turns);
        if (what == NONE) {
            return winnersAt(kind, turn, now.turns);
        }
        int ahead = 0;
        for (int place = 0; place < now.soldCount; place++) {
            for (int card = 0; card < now.form.cards; card++) {
                if (hasFirst(place, card, kind, turn)) {
                    if (ahead == what) {
                        return 10 * place + card;
                    }
                    ahead++;
                }
            }
        }
        return NONE;
    }

    public int prize(int kind, int what) {
        if (!isKind(kind) || what < 0 || what > 1) {
            return MISSING;
        }
        int winners = winnersAt(kind, firstTurn(kind, now.turns), now.turns);
        int part = partOf(now.prizes[kind], winners);
        return what == 0 ? part : now.prizes[kind] - part * winners;
    }

    public int jackpot(int what) {
        if (!isHall() || what < 0 || what > 1) {
            return MISSING;
        }
        int turn = firstTurn(HOUSE, now.turns);
        if (what == 0) {
            return jackpotPart(turn) * winnersAt(HOUSE, turn, now.turns);
        }
        return now.by == 0 || turn == NONE ? NONE : Math.max(0, turn - now.by);
    }

    public int wins(int i) {
        if (!isPlace(i)) {
            return MISSING;
        }
        int sum = 0;
        for (int kind = 0; kind < KINDS; kind++) {
            int turn = firstTurn(kind, now.turns);
            int part = winnerPart(kind, turn);
            for (int card = 0; card < now.form.cards; card++) {
                if (hasFirst(i, card, kind, turn)) {
                    sum += part;
                }
            }
        }
        return sum;
    }

    private long wonInAll() {
        long sum = 0;
        for (int kind = 0; kind < KINDS; kind++) {
            int turn = firstTurn(kind, now.turns);
            sum += (long) winnerPart(kind, turn) * winnersAt(kind, turn, now.turns);
        }
        return sum;
    }

    /** What each CARD that has a KIND first, at a turn, wins by it. */
    private int winnerPart(int kind, int turn) {
        int part = partOf(now.prizes[kind], winnersAt(kind, turn, now.turns));
        return kind == HOUSE ? part + jackpotPart(turn) : part;
    }

    /** What each CARD that has the first house, at a turn, has of the JACKPOT. */
    private int jackpotPart(int turn) {
        if (turn == NONE || turn > now.by) {
            return 0;
        }
        return partOf(now.purse, winnersAt(HOUSE, turn, now.turns));
    }

    private static int partOf(int money, int winners) {
        return winners < 1 ? 0 : money / winners;
    }

    private int firstTurn(int kind, int[] turns) {
        int first = NONE;
        for (int place = 0; place < now.soldCount; place++) {
            int turn = firstTurnOf(place, kind, turns);
            if (turn != NONE && (first == NONE || turn < first)) {
                first = turn;
            }
        }
        return first;
    }

    /** Behind how many CALLS some CARD of a SOLD STRIP has a KIND first; NONE: never. */
    private int firstTurnOf(int place, int kind, int[] turns) {
        int first = NONE;
        for (int card = 0; card < now.form.cards; card++) {
            int turn = soldCard(place, card, turns).turnOf(kind);
            if (turn != NONE && (first == NONE || turn < first)) {
                first = turn;
            }
        }
        return first;
    }

    private int winnersAt(int kind, int turn, int[] turns) {
        int winners = 0;
        for (int place = 0; place < now.soldCount && turn != NONE; place++) {
            for (int card = 0; card < now.form.cards; card++) {
                if (soldCard(place, card, turns).turnOf(kind) == turn) {
                    winners++;
                }
            }
        }
        return winners;
    }

    private boolean hasFirst(int place, int card, int kind, int turn) {
        return turn != NONE && soldCard(place, card, now.turns).turnOf(kind) == turn;
    }

    // BOOK, SHAPES and more of CARDS.

    public int book(int serial, int i) {
        if (!isSerial(serial)) {
            return MISSING;
        }
        int many = 0;
        int last = Math.min(serial + BOOK_SERIALS - 1, LAST_SERIAL);
        for (int it = serial; it <= last && many <= i && many < BOOK_SERIALS; it++) {
            dealer.deal(now.form, it, bookStrips[many]);
            if (isUnlikeAhead(many)) {
                bookSerials[many] = it;
                many++;
            }
        }
        return i >= 0 && i < many ? bookSerials[i] : NONE;
    }

    private boolean isUnlikeAhead(int place) {
        for (int ahead = 0; ahead < place; ahead++) {
            if (areSame(bookStrips[ahead], bookStrips[place])) {
                return false;
            }
        }
        return true;
    }

    public int shaped(int serial, int card, int slot) {
        if (!isSerial(serial) || !isCard(card) || !slots.isSlot(slot)) {
            return MISSING;
        }
        if (!slots.hasRow(slot)) {
            return NOTHING;
        }
        return isShape(slot) ? shapeTurn(cardOf(serial, card), slot) : MISSING;
    }

    public int shape(int slot, int what) {
        if (!isHall() || !slots.isSlot(slot) || what < 0 || what > 1) {
            return MISSING;
        }
        if (!slots.hasRow(slot)) {
            return NOTHING;
        }
        if (!isShape(slot)) {
            return MISSING;
        }
        int first = NONE;
        int winner = NONE;
        for (int place = 0; place < now.soldCount; place++) {
            for (int card = 0; card < now.form.cards; card++) {
                int turn = shapeTurn(soldCard(place, card, now.turns), slot);
                if (first == NONE || turn < first) {
                    first = turn;
                    winner = 10 * place + card;
                }
            }
        }
        return what == 0 ? first : winner;
    }

    private boolean isShape(int slot) {
        for (int i = 0; i < slots.lengthOf(slot); i++) {
            long value = slots.valueAt(slot, i);
            if (value < 0 || value / 10 >= now.form.rows || value % 10 >= now.form.columns) {
                return false;
            }
        }
        return true;
    }

    private int shapeTurn(Card card, int slot) {
        int turn = 0;
        for (int i = 0; i < slots.lengthOf(slot); i++) {
            int value = (int) slots.valueAt(slot, i);
            turn = Math.max(turn, card.turnAt(value / 10, value % 10));
        }
        return turn;
    }

    public int corners(int serial, int card) {
        if (!isSerial(serial) || !isCard(card)) {
            return MISSING;
        }
        Card it = cardOf(serial, card);
        return Math.max(it.endsTurn(0), it.endsTurn(now.form.rows - 1));
    }

    public int filled(int serial, int card, int column) {
        if (!isSerial(serial) || !isCard(card) || !isColumn(column)) {
            return MISSING;
        }
        Card it = cardOf(serial, card);
        int turn = 0;
        for (int row = 0; row < now.form.rows; row++) {
            turn = Math.max(turn, it.turnAt(row, column));
        }
        return turn;
    }

    public int last(int serial, int card) {
        if (!isSerial(serial) || !isCard(card)) {
            return MISSING;
        }
        int turn = cardOf(serial, card).turnOf(HOUSE);
        return turn < 1 || turn > now.form.numbers ? MISSING : now.calls[turn - 1];
    }

    public int sweat(int kind, int n) {
        if (!isKind(kind) || !isTime(n)) {
            return MISSING;
        }
        int many = 0;
        for (int place = 0; place < now.soldCount; place++) {
            for (int card = 0; card < now.form.cards; card++) {
                if (soldCard(place, card, now.turns).lackOf(kind, n) == 1) {
                    many++;
                }
            }
        }
        return many;
    }

    public int nearest(int kind, int n) {
        if (!isKind(kind) || !isTime(n)) {
            return MISSING;
        }
        int fewest = NONE;
        for (int place = 0; place < now.soldCount; place++) {
            for (int card = 0; card < now.form.cards; card++) {
                int lack = soldCard(place, card, now.turns).lackOf(kind, n);
                if (lack != NONE && (fewest == NONE || lack < fewest)) {
                    fewest = lack;
                }
            }
        }
        return fewest;
    }

    public int slow(int first, int n, int m, int kind) {
        if (!isKind(kind) || n < 1 || n > MOST_SOLD || m < 1 || m > MOST_SOLD) {
            return MISSING;
        }
        if (first < 0 || first > now.soldCount - n) {
            return MISSING;
        }
        int soonest = NONE;
        for (int place = 0; place < n; place++) {
            int turn = firstTurnOf(first + place, kind, now.turns);
            if (turn != NONE) {
                int time = daubTime(turn, place, n, m);
                soonest = soonest == NONE ? time : Math.min(soonest, time);
            }
        }
        return soonest;
    }

    /**
     * Each NUMBER is once on each STRIP, so a CALL brings n daubs; who daubs fewer in its time
     * is never idle, and the daubs before this one alone tell its time.
     */
    private static int daubTime(int turn, int place, int n, int m) {
        if (m < 1 || n <= m) {
            return turn;
        }
        return ((turn - 1) * n + place) / m + 1;
    }

    public int race(int kind, int i) {
        if (!isKind(kind)) {
            return MISSING;
        }
        for (int place = 0; place < now.soldCount; place++) {
            int turn = firstTurnOf(place, kind, now.turns);
            if (turn != NONE && aheadOf(place, turn, kind) == i) {
                return place;
            }
        }
        return NONE;
    }

    private int aheadOf(int place, int turn, int kind) {
        int ahead = 0;
        for (int other = 0; other < now.soldCount; other++) {
            int otherTurn = firstTurnOf(other, kind, now.turns);
            if (otherTurn < turn || otherTurn == turn && other < place) {
                ahead++;
            }
        }
        return ahead;
    }

    public int share(int slot, int i) {
        if (!isHall() || !slots.isSlot(slot)) {
            return MISSING;
        }
        if (!slots.hasRow(slot)) {
            return NOTHING;
        }
        long paid = paidInAll(slot);
        if (paid < 1) {
            return MISSING;
        }
        if (i < 0 || i >= slots.lengthOf(slot)) {
            return NONE;
        }
        long won = wonInAll();
        long left = won;
        for (int buyer = 0; buyer < slots.lengthOf(slot); buyer++) {
            left -= won * slots.valueAt(slot, buyer) / paid;
        }
        long part = won * slots.valueAt(slot, i) / paid;
        return (int) (i == 0 ? part + left : part);
    }

    /** What buyers paid together; 0: a SLOT's row doesn't tell 1 .. 8 of them, or one's money. */
    private long paidInAll(int slot) {
        int buyers = slots.lengthOf(slot);
        if (buyers > MOST_SOLD) {
            return 0;
        }
        long sum = 0;
        for (int i = 0; i < buyers; i++) {
            long paid = slots.valueAt(slot, i);
            if (paid < 1 || paid > MOST_MONEY) {
                return 0;
            }
            sum += paid;
        }
        return sum;
    }

    // CHANCE.

    public long chance(int kind, int n, int what) {
        if (!isKind(kind) || !isTime(n) || !isPartOfFraction(what)) {
            return MISSING;
        }
        Form form = now.form;
        int groups = kind == HOUSE ? 1 : form.rows;
        int size = kind == HOUSE ? form.rows * form.each : form.each;
        long good = Chances.drawsWith(form.numbers, n, groups, size, kind == TWO ? 2 : 1);
        return Chances.told(good, Chances.choose(form.numbers, n), what);
    }

    public long some(int kind, int n, int what) {
        if (!isKind(kind) || kind == TWO || !isTime(n) || !isPartOfFraction(what)) {
            return MISSING;
        }
        return Chances.told(stripDraws(kind, n), Chances.choose(now.form.numbers, n), what);
    }

    public long just(int kind, int n, int what) {
        if (!isKind(kind) || kind == TWO || !isTime(n) || n == 0 || !isPartOfFraction(what)) {
            return MISSING;
        }
        // C(N, n - 1) is C(N, n) n / (N - n + 1): both chances stand above C(N, n) n.
        long above = stripDraws(kind, n) * n - stripDraws(kind, n - 1) * (now.form.numbers - n + 1);
        return Chances.told(above, Chances.choose(now.form.numbers, n) * n, what);
    }

    public int likely(int kind, int above, int below) {
        if (!isKind(kind) || kind == TWO || above < 0 || above > MOST_LIKELY || below < 1 || below > MOST_LIKELY) {
            return MISSING;
        }
        for (int n = 0; n <= now.form.numbers; n++) {
            if (stripDraws(kind, n) * below >= above * Chances.choose(now.form.numbers, n)) {
                return n;
            }
        }
        return NONE;
    }

    /** In how many of all choices of n NUMBERS some CARD of a STRIP has a row or a house. */
    private long stripDraws(int kind, int n) {
        Form form = now.form;
        int groups = kind == HOUSE ? form.cards : form.cards * form.rows;
        int size = kind == HOUSE ? form.rows * form.each : form.each;
        return Chances.drawsWith(form.numbers, n, groups, size, 1);
    }

    public int mean(int n, int what) {
        if (!isTime(n) || n == 0 || !isPartOfFraction(what)) {
            return MISSING;
        }
        return (int) Chances.told((long) n * (now.form.numbers + 1), n + 1L, what);
    }

    // EVENINGS and what is told of the whole.

    public int evenings(int seed, int n, int kind, int what) {
        if (!isKind(kind) || seed < 0 || seed > LAST_SEED || n < 1 || n > MOST_EVENINGS || what < 0 || what > 2) {
            return MISSING;
        }
        int sum = 0;
        int fewest = now.form.numbers + 1;
        int parted = 0;
        for (int evening = 0; evening < n; evening++) {
            dealer.mixCalls(now.form, seed + evening, thoughtCalls);
            noteTurns(thoughtCalls, now.form.numbers, thoughtTurns);
            int turn = firstTurn(kind, thoughtTurns);
            int took = turn == NONE ? now.form.numbers + 1 : turn;
            sum += took;
            fewest = Math.min(fewest, took);
            if (winnersAt(kind, turn, thoughtTurns) > 1) {
                parted++;
            }
        }
        if (what == 0) {
            return sum;
        }
        return what == 1 ? fewest : parted;
    }

    public int judge(int slot) {
        if (!isHall() || !slots.isSlot(slot)) {
            return MISSING;
        }
        if (!slots.hasRow(slot)) {
            return NOTHING;
        }
        int both = Math.min(slots.lengthOf(slot), now.form.numbers);
        for (int i = 0; i < both; i++) {
            if (slots.valueAt(slot, i) != now.calls[i]) {
                return i;
            }
        }
        return both;
    }

    public int count(int what) {
        switch (what) {
            case 0:
                return now.form.cards;
            case 1:
                return now.form.rows;
            case 2:
                return now.form.each;
            case 3:
                return now.form.columns;
            case 4:
                return now.soldCount;
            case 5:
                return now.lines;
            case 6:
                return reader.tapeLength;
            case 7:
                return now.purse;
            case 8:
                return now.by;
            case 9:
                return slots.inUse();
            default:
                return NONE;
        }
    }

    // IMAGES.

    public int keep(int k) {
        if (k < 0 || k >= IMAGES) {
            return MISSING;
        }
        images[k].copyFrom(now);
        kept[k] = true;
        return 0;
    }

    public int back(int k) {
        if (k < 0 || k >= IMAGES) {
            return MISSING;
        }
        if (!kept[k]) {
            return NOTHING;
        }
        now.copyFrom(images[k]);
        return 0;
    }

    // SLOTS.

    public int row(int slot, int width, int n) {
        if (!slots.isSlot(slot) || width < 0 || width > 3 || n > Slots.MOST) {
            return MISSING;
        }
        if (n < 0) {
            return REFUSED;
        }
        slots.begin(slot, width, n);
        return 0;
    }

    public int write(int slot, int i, long v) {
        if (!slots.isSlot(slot)) {
            return MISSING;
        }
        if (!slots.hasRow(slot)) {
            return NOTHING;
        }
        if (i < 0 || i >= slots.lengthOf(slot)) {
            return BEYOND;
        }
        slots.put(slot, i, v);
        return 0;
    }

    public int paste(int slot, int i, int to, int k, int n) {
        if (!slots.isSlot(slot) || !slots.isSlot(to)) {
            return MISSING;
        }
        if (!slots.hasRow(slot) || !slots.hasRow(to)) {
            return NOTHING;
        }
        if (!slots.areOfOneWidth(slot, to)) {
            return UNLIKE;
        }
        if (!slots.holds(slot, i, n) || !slots.holds(to, k, n)) {
            return BEYOND;
        }
        slots.move(slot, i, to, k, n);
        return 0;
    }

    // What there is.

    private boolean isHall() {
        return now.lines > 0;
    }

    private boolean isSerial(int serial) {
        return isHall() && serial >= 0 && serial <= LAST_SERIAL;
    }

    private boolean isCard(int card) {
        return isHall() && card >= 0 && card < now.form.cards;
    }

    private boolean isColumn(int column) {
        return isHall() && column >= 0 && column < now.form.columns;
    }

    private boolean isNumber(int number) {
        return isHall() && number >= 1 && number <= now.form.numbers;
    }

    private boolean isKind(int kind) {
        return isHall() && kind >= 0 && kind < KINDS;
    }

    private boolean isTime(int n) {
        return isHall() && n >= 0 && n <= now.form.numbers;
    }

    private boolean isPlace(int i) {
        return isHall() && i >= 0 && i < now.soldCount;
    }

    private static boolean isPartOfFraction(int what) {
        return what == 0 || what == 1;
    }

    private Card cardOf(int serial, int card) {
        dealer.deal(now.form, serial, oneStrip);
        view.look(now.form, oneStrip, card, now.turns);
        return view;
    }

    private Card soldCard(int place, int card, int[] turns) {
        if (isPlace(place)) {
            view.look(now.form, now.strips[place], card, turns);
        }
        return view;
    }

    private static boolean areSame(int[] one, int[] other) {
        for (int i = 0; i < MOST_CELLS; i++) {
            if (one[i] != other[i]) {
                return false;
            }
        }
        return true;
    }

    private static void noteTurns(int[] calls, int n, int[] turns) {
        for (int i = 0; i < n && i < calls.length; i++) {
            int number = calls[i];
            if (number >= 0 && number < turns.length) {
                turns[number] = i + 1;
            }
        }
    }

    private static void sortRising(int[] row, int n) {
        for (int i = 1; i < n && i < row.length; i++) {
            int it = row[i];
            int to = i;
            for (; to > 0 && row[to - 1] > it; to--) {
                row[to] = row[to - 1];
            }
            row[to] = it;
        }
    }

    /** DRAWS. */
    private static final class Draws {
        private static final long FACTOR = 1103515245L;
        private static final long STEP = 12345L;
        private static final long ROUND = 2147483648L;
        private static final long LOW = 65536L;
        private static final long HIGH = 32768L;
        private long x = 0;

        private void begin(int seed) {
            x = seed;
        }

        private int below(int n) {
            x = (FACTOR * x + STEP) % ROUND;
            long a = x / LOW;
            x = (FACTOR * x + STEP) % ROUND;
            long b = x / LOW;
            return n < 1 ? 0 : (int) ((HIGH * a + b) % n);
        }

        private void mix(int[] row, int n) {
            for (int place = n - 1; place > 0; place--) {
                int other = below(place + 1);
                if (place < row.length) {
                    int it = row[place];
                    row[place] = row[other];
                    row[other] = it;
                }
            }
        }
    }

    /**
     * Parts by which numbers of each COLUMN are made up, in their order: the mixes of a CARD
     * make a PLAN, the sets of a row a LAYOUT. Such numbers are packed, five bits a COLUMN,
     * COLUMN 0 the highest, so that to take a part from a rest is one subtraction.
     */
    private static final class Parts {
        private static final int MOST = 64;
        private static final int BITS = 5;
        private static final int DIGIT = 31;
        /** The highest bit of each COLUMN: no number of one (15 at most) comes to it. */
        private static final int GUARDS = 0x1084210;
        private static final int MOST_LEFT = 3;

        private final int[] parts = new int[MOST];
        private int many = 0;
        private int columns = 0;
        private int least = 0;
        private int most = 0;
        private int sum = 0;

        private static int packed(int column, int number) {
            return column < 0 || column >= MOST_COLUMNS ? 0 : number << BITS * (MOST_COLUMNS - 1 - column);
        }

        private static int digit(int packed, int column) {
            return column < 0 || column >= MOST_COLUMNS ? 0 : packed >> BITS * (MOST_COLUMNS - 1 - column) & DIGIT;
        }

        /** All mixes of 1 .. rows NUMBERS of each COLUMN, each rows a row. */
        private void beMixes(int columns, int rows, int each) {
            begin(columns, 1, rows, rows * each);
            int codes = 1;
            for (int column = 0; column < columns; column++) {
                codes *= rows;
            }
            for (int code = 0; code < codes; code++) {
                int rest = code;
                int mix = 0;
                for (int column = columns - 1; column >= 0 && rows > 0; column--) {
                    mix += packed(column, rest % rows + 1);
                    rest /= rows;
                }
                addIfPart(mix);
            }
        }

        /** All sets of COLUMNS that a row can have. */
        private void beSets(int columns, int each) {
            begin(columns, 0, 1, each);
            for (int bits = 0; bits < 1 << columns; bits++) {
                int set = 0;
                for (int column = 0; column < columns; column++) {
                    set += packed(column, bits >> column & 1);
                }
                addIfPart(set);
            }
        }

        private void begin(int columns, int least, int most, int sum) {
            many = 0;
            this.columns = columns;
            this.least = least;
            this.most = most;
            this.sum = sum;
        }

        private void addIfPart(int part) {
            if (isPart(part) && many < MOST) {
                parts[many] = part;
                many++;
            }
        }

        private boolean isPart(int rest) {
            int together = 0;
            for (int column = 0; column < columns; column++) {
                int number = rest >> BITS * (MOST_COLUMNS - 1 - column) & DIGIT;
                if (number < least || number > most) {
                    return false;
                }
                together += number;
            }
            return together == sum;
        }

        private static boolean canTake(int rest, int part) {
            return ((rest | GUARDS) - part & GUARDS) == GUARDS;
        }

        /** In how many ways as many parts as are left make up a rest. */
        private static int waysOf(Parts of, int left, int rest) {
            if (left < 1 || left > MOST_LEFT) {
                return left == 0 && rest == 0 ? 1 : 0;
            }
            if (left == 1) {
                return of.isPart(rest) ? 1 : 0;
            }
            int ways = 0;
            for (int i = 0; i < of.many; i++) {
                if (canTake(rest, of.parts[i])) {
                    ways += waysOf(of, left - 1, rest - of.parts[i]);
                }
            }
            return ways;
        }

        /** Puts the index-th of these ways to a row, from a place on. */
        private void pick(int left, int whole, int index, int[] row, int from) {
            int rest = whole;
            int ahead = index;
            for (int place = 0; place < left && from + place < row.length; place++) {
                for (int i = 0; i < many; i++) {
                    int ways = canTake(rest, parts[i]) ? waysOf(this, left - 1 - place, rest - parts[i]) : 0;
                    if (ahead < ways) {
                        row[from + place] = parts[i];
                        rest -= parts[i];
                        break;
                    }
                    ahead -= ways;
                }
            }
        }
    }

    /** What the hall LINE tells, and what follows from it. */
    private static final class Form {
        private int cards = 0;
        private int rows = 0;
        private int each = 0;
        private int columns = 0;
        private final int[] sizes = new int[MOST_COLUMNS];
        private final int[] firsts = new int[MOST_COLUMNS];
        private int numbers = 0;
        private int packedSizes = 0;
        private int plans = 0;
        private final Parts mixes = new Parts();
        /** How many PLANS begin with each mix. */
        private final int[] plansBehind = new int[Parts.MOST];
        private final Parts sets = new Parts();

        private void clear() {
            cards = 0;
            rows = 0;
            each = 0;
            columns = 0;
            settle();
        }

        private void copyFrom(Form other) {
            cards = other.cards;
            rows = other.rows;
            each = other.each;
            columns = other.columns;
            System.arraycopy(other.sizes, 0, sizes, 0, MOST_COLUMNS);
            settle();
        }

        private void settle() {
            numbers = 0;
            packedSizes = 0;
            for (int column = 0; column < columns; column++) {
                firsts[column] = numbers + 1;
                numbers += sizes[column];
                packedSizes += Parts.packed(column, sizes[column]);
            }
            mixes.beMixes(columns, rows, each);
            sets.beSets(columns, each);
            plans = 0;
            for (int i = 0; i < mixes.many; i++) {
                int rest = packedSizes - mixes.parts[i];
                plansBehind[i] = Parts.canTake(packedSizes, mixes.parts[i]) ? Parts.waysOf(mixes, cards - 1, rest) : 0;
                plans += plansBehind[i];
            }
        }

        /** Puts a PLAN, a mix for each CARD, to a row. */
        private void putPlan(int index, int[] row) {
            int ahead = index;
            for (int i = 0; i < mixes.many; i++) {
                if (ahead < plansBehind[i] && row.length > 0) {
                    row[0] = mixes.parts[i];
                    mixes.pick(cards - 1, packedSizes - mixes.parts[i], ahead, row, 1);
                    return;
                }
                ahead -= plansBehind[i];
            }
        }

        private boolean isAsSaid() {
            return columns >= LEAST_COLUMNS && columns >= each && numbers == cards * rows * each && plans > 0;
        }

        private int placeOf(int card, int row, int column) {
            int place = (card * rows + row) * columns + column;
            return place < 0 || place >= MOST_CELLS ? 0 : place;
        }

        /** The NUMBERS of a CARD, as bits. */
        private long numbersOf(int[] strip, int card) {
            long bits = 0;
            for (int row = 0; row < rows; row++) {
                for (int column = 0; column < columns; column++) {
                    int number = strip[placeOf(card, row, column)];
                    bits |= number == 0 ? 0 : 1L << number;
                }
            }
            return bits;
        }
    }

    /** Makes STRIPS and CALLS by DRAWS. */
    private static final class Dealer {
        private final Draws draws = new Draws();
        private final int[] plan = new int[MOST_CARDS];
        private final int[] layouts = new int[MOST_CARDS * MOST_ROWS];
        private final int[] mixed = new int[MOST_OF_A_COLUMN];
        private final int[] hand = new int[MOST_ROWS];

        private int drawnPlan(Form form, int serial) {
            draws.begin(serial);
            return draws.below(form.plans);
        }

        private int planned(Form form, int i, int card, int column) {
            form.putPlan(i, plan);
            return card < 0 || card >= MOST_CARDS ? 0 : Parts.digit(plan[card], column);
        }

        private void deal(Form form, int serial, int[] strip) {
            Arrays.fill(strip, 0);
            form.putPlan(drawnPlan(form, serial), plan);
            for (int card = 0; card < form.cards; card++) {
                int ways = Parts.waysOf(form.sets, form.rows, plan[card]);
                form.sets.pick(form.rows, plan[card], draws.below(ways), layouts, card * form.rows);
            }
            for (int column = 0; column < form.columns; column++) {
                int size = form.sizes[column];
                for (int i = 0; i < size && i < MOST_OF_A_COLUMN; i++) {
                    mixed[i] = form.firsts[column] + i;
                }
                draws.mix(mixed, size);
                dealColumn(form, column, strip);
            }
        }

        private void dealColumn(Form form, int column, int[] strip) {
            int dealt = 0;
            for (int card = 0; card < form.cards; card++) {
                int many = Parts.digit(plan[card], column);
                for (int i = 0; i < many && i < MOST_ROWS && dealt < MOST_OF_A_COLUMN; i++) {
                    hand[i] = mixed[dealt];
                    dealt++;
                }
                sortRising(hand, many);
                layDown(form, card, column, strip);
            }
        }

        private void layDown(Form form, int card, int column, int[] strip) {
            int laid = 0;
            for (int row = 0; row < form.rows; row++) {
                if (Parts.digit(layouts[card * form.rows + row], column) == 1 && laid < MOST_ROWS) {
                    strip[form.placeOf(card, row, column)] = hand[laid];
                    laid++;
                }
            }
        }

        private void mixCalls(Form form, int seed, int[] calls) {
            for (int i = 0; i < form.numbers && i < calls.length; i++) {
                calls[i] = i + 1;
            }
            draws.begin(seed);
            draws.mix(calls, form.numbers);
        }
    }

    /** A HALL, what is SOLD, and its CALLS; without LINES there is none. */
    private static final class Hall {
        private final Form form = new Form();
        private int lines = 0;
        private final int[] prizes = new int[KINDS];
        private int purse = 0;
        /** By which CALL the JACKPOT is won; 0: there is none. */
        private int by = 0;
        private int soldCount = 0;
        private final int[] sold = new int[MOST_SOLD];
        private final int[][] strips = new int[MOST_SOLD][MOST_CELLS];
        private final int[] calls = new int[MOST_CELLS];
        /** Behind how many CALLS each NUMBER is called. */
        private final int[] turns = new int[MOST_CELLS + 1];

        private void clear() {
            form.clear();
            lines = 0;
            Arrays.fill(prizes, 0);
            purse = 0;
            by = 0;
            soldCount = 0;
        }

        private void copyFrom(Hall other) {
            form.copyFrom(other.form);
            lines = other.lines;
            System.arraycopy(other.prizes, 0, prizes, 0, KINDS);
            purse = other.purse;
            by = other.by;
            soldCount = other.soldCount;
            System.arraycopy(other.sold, 0, sold, 0, MOST_SOLD);
            for (int place = 0; place < soldCount; place++) {
                System.arraycopy(other.strips[place], 0, strips[place], 0, MOST_CELLS);
            }
            System.arraycopy(other.calls, 0, calls, 0, MOST_CELLS);
            System.arraycopy(other.turns, 0, turns, 0, MOST_CELLS + 1);
        }

        private boolean hasSold(int[] strip) {
            for (int place = 0; place < soldCount; place++) {
                if (areSame(strips[place], strip)) {
                    return true;
                }
            }
            return false;
        }

        private void addSold(int serial, int[] strip) {
            if (soldCount < MOST_SOLD) {
                sold[soldCount] = serial;
                System.arraycopy(strip, 0, strips[soldCount], 0, MOST_CELLS);
                soldCount++;
            }
        }

        private void noteTurns() {
            BingoHall.noteTurns(calls, form.numbers, turns);
        }
    }

    /** A CARD of a STRIP that is looked at, as CALLS have it. */
    private static final class Card {
        private int rows = 0;
        private int columns = 0;
        private int each = 0;
        /** Behind how many CALLS what stands at a place is called; 0: nothing stands there. */
        private final int[] turns = new int[MOST_ROWS * MOST_COLUMNS];
        private final int[] perRow = new int[MOST_ROWS];

        private void look(Form form, int[] strip, int card, int[] numberTurns) {
            rows = form.rows;
            columns = form.columns;
            each = form.each;
            for (int row = 0; row < rows; row++) {
                for (int column = 0; column < columns; column++) {
                    int number = strip[form.placeOf(card, row, column)];
                    boolean isNumber = number > 0 && number < numberTurns.length;
                    turns[row * columns + column] = isNumber ? numberTurns[number] : 0;
                }
            }
        }

        private int turnAt(int row, int column) {
            int place = row * columns + column;
            return place < 0 || place >= turns.length ? 0 : turns[place];
        }

        private int rowTurn(int row) {
            int turn = 0;
            for (int column = 0; column < columns; column++) {
                turn = Math.max(turn, turnAt(row, column));
            }
            return turn;
        }

        private int rowLack(int row, int n) {
            int lack = 0;
            for (int column = 0; column < columns; column++) {
                if (turnAt(row, column) > n) {
                    lack++;
                }
            }
            return lack;
        }

        private boolean canHave(int kind) {
            return rows > (kind == TWO ? 1 : 0);
        }

        private int turnOf(int kind) {
            if (!canHave(kind)) {
                return NONE;
            }
            for (int row = 0; row < rows; row++) {
                perRow[row] = rowTurn(row);
            }
            sortRising(perRow, rows);
            if (kind == HOUSE) {
                return perRow[rows - 1];
            }
            return kind == TWO ? perRow[1] : perRow[0];
        }

        private int lackOf(int kind, int n) {
            if (!canHave(kind)) {
                return NONE;
            }
            for (int row = 0; row < rows; row++) {
                perRow[row] = rowLack(row, n);
            }
            sortRising(perRow, rows);
            int needed = kind == HOUSE ? rows : kind + 1;
            int lack = 0;
            for (int row = 0; row < needed; row++) {
                lack += perRow[row];
            }
            return lack;
        }

        private int fullRowsBy(int n) {
            int many = 0;
            for (int row = 0; row < rows; row++) {
                if (rowLack(row, n) == 0) {
                    many++;
                }
            }
            return many;
        }

        private int daubedBy(int n) {
            int many = rows * each;
            for (int row = 0; row < rows; row++) {
                many -= rowLack(row, n);
            }
            return many;
        }

        /** Behind how many CALLS the first and the last NUMBER of a row are called. */
        private int endsTurn(int row) {
            int left = 0;
            int right = 0;
            for (int column = 0; column < columns; column++) {
                int turn = turnAt(row, column);
                if (turn > 0) {
                    left = left == 0 ? turn : left;
                    right = turn;
                }
            }
            return Math.max(left, right);
        }
    }

    /** Reads a TAPE as a HALL, and stops at its first FAULT. */
    private static final class Reader {
        private static final int END = 0;
        private static final int WORD = 1;
        private static final int NUMBER = 2;
        private static final int SIGN = 3;
        private static final int STRANGE = 4;

        private static final int MISPLACED = 1;
        private static final int OUT_OF_BOUNDS = 2;
        private static final int TOO_MANY = 3;
        /** More than any bound; a longer number stays here, lest it wrap. */
        private static final int LARGE = 1000000;

        private final byte[] tape = new byte[MOST_BYTES];
        private int tapeLength = 0;
        private final Dealer dealer = new Dealer();
        private final int[] strip = new int[MOST_CELLS];
        private int at = 0;
        private int token = END;
        private int place = 0;
        private int value = 0;
        private int seed = 1;
        private int fault = 0;
        private int spot = NONE;

        /** Puts four bytes behind the TAPE, the highest first. */
        private void addFour(int number) {
            for (int shift = 24; shift >= 0 && tapeLength < MOST_BYTES; shift -= 8) {
                tape[tapeLength] = (byte) (number >> shift);
                tapeLength++;
            }
        }

        private void begin(Hall hall) {
            hall.clear();
            at = 0;
            seed = 1;
            fault = 0;
            spot = NONE;
            takeToken();
        }

        private boolean hasLine() {
            return token != END && fault == 0;
        }

        private void readLine(Hall hall) {
            if (isWord("hall") != (hall.lines == 0)) {
                fail(MISPLACED);
            } else if (isWord("hall")) {
                readForm(hall.form);
            } else if (isWord("prize")) {
                readPrize(hall);
            } else if (isWord("jackpot")) {
                readJackpot(hall);
            } else if (isWord("sold")) {
                readSold(hall);
            } else {
                takeWord("caller");
                seed = takeNumber(0, LAST_TOLD_SEED);
            }
            takeSign();
            hall.lines++;
        }

        private void readForm(Form form) {
            takeWord("hall");
            takeWord("cards");
            form.cards = takeNumber(1, MOST_CARDS);
            takeWord("rows");
            form.rows = takeNumber(1, MOST_ROWS);
            takeWord("each");
            form.each = takeNumber(1, MOST_EACH);
            takeWord("columns");
            readColumns(form);
            if (fault == 0 && token == SIGN) {
                form.settle();
                if (!form.isAsSaid()) {
                    fail(OUT_OF_BOUNDS);
                }
            }
        }

        private void readColumns(Form form) {
            form.columns = 0;
            for (int column = 0; column < MOST_COLUMNS && (column == 0 || token == NUMBER) && fault == 0; column++) {
                form.sizes[column] = takeNumber(1, MOST_OF_A_COLUMN);
                form.columns++;
            }
            if (fault == 0 && token == NUMBER) {
                fail(isNumberOf(1, MOST_OF_A_COLUMN) ? TOO_MANY : OUT_OF_BOUNDS);
            }
        }

        private void readPrize(Hall hall) {
            takeWord("prize");
            int kind = ROW;
            if (isWord("two")) {
                kind = TWO;
            } else if (isWord("house")) {
                kind = HOUSE;
            } else if (!isWord("row")) {
                fail(MISPLACED);
            }
            takeToken();
            hall.prizes[kind] = takeNumber(0, MOST_MONEY);
        }

        private void readJackpot(Hall hall) {
            takeWord("jackpot");
            hall.purse = takeNumber(0, MOST_MONEY);
            takeWord("by");
            hall.by = takeNumber(1, hall.form.numbers);
        }

        private void readSold(Hall hall) {
            if (hall.soldCount >= MOST_SOLD) {
                fail(TOO_MANY);
            }
            takeWord("sold");
            if (isNumberOf(0, LAST_SERIAL) && fault == 0) {
                dealer.deal(hall.form, value, strip);
                if (hall.hasSold(strip)) {
                    fail(OUT_OF_BOUNDS);
                }
            }
            int serial = takeNumber(0, LAST_SERIAL);
            if (fault == 0) {
                hall.addSold(serial, strip);
            }
        }

        private void fail(int which) {
            if (fault == 0) {
                fault = which;
                spot = place;
            }
        }

        private void takeWord(String word) {
            if (!isWord(word)) {
                fail(MISPLACED);
            }
            takeToken();
        }

        /** The number that stands here, in its bounds; the least behind a FAULT. */
        private int takeNumber(int least, int most) {
            if (token != NUMBER) {
                fail(MISPLACED);
            } else if (!isNumberOf(least, most)) {
                fail(OUT_OF_BOUNDS);
            }
            int number = fault == 0 ? value : least;
            takeToken();
            return number;
        }

        private void takeSign() {
            if (token != SIGN) {
                fail(MISPLACED);
            }
            takeToken();
        }

        private boolean isNumberOf(int least, int most) {
            return token == NUMBER && value >= least && value <= most;
        }

        private boolean isWord(String word) {
            if (token != WORD || at - place != word.length()) {
                return false;
            }
            for (int i = 0; i < word.length(); i++) {
                if (byteAt(place + i) != word.charAt(i)) {
                    return false;
                }
            }
            return true;
        }

        private int byteAt(int i) {
            return i < 0 || i >= tapeLength ? NONE : tape[i] & 255;
        }

        private void takeToken() {
            while (at < tapeLength && isBlank(byteAt(at))) {
                at++;
            }
            place = at;
            value = 0;
            int first = byteAt(at);
            if (first == NONE) {
                token = END;
            } else if (isLetter(first)) {
                token = WORD;
                while (at < tapeLength && isLetter(byteAt(at))) {
                    at++;
                }
            } else if (isDigit(first)) {
                token = NUMBER;
                while (at < tapeLength && isDigit(byteAt(at))) {
                    value = Math.min(10 * value + byteAt(at) - '0', LARGE);
                    at++;
                }
            } else {
                token = first == ';' ? SIGN : STRANGE;
                at++;
            }
        }

        private static boolean isBlank(int sign) {
            return sign == ' ' || sign == '\n';
        }

        private static boolean isLetter(int sign) {
            return sign >= 'a' && sign <= 'z';
        }

        private static boolean isDigit(int sign) {
            return sign >= '0' && sign <= '9';
        }
    }

    /** SLOTS: rows of numbers, cut to a WIDTH. */
    private static final class Slots {
        private static final int MOST = 60;

        private final long[][] rows = new long[SLOTS][MOST];
        private final int[] lengths = new int[SLOTS];
        private final int[] widths = new int[SLOTS];
        private final boolean[] used = new boolean[SLOTS];

        private boolean isSlot(int slot) {
            return slot >= 0 && slot < SLOTS;
        }

        private boolean hasRow(int slot) {
            return isSlot(slot) && used[slot];
        }

        private int lengthOf(int slot) {
            return hasRow(slot) ? lengths[slot] : 0;
        }

        private boolean holds(int slot, int from, int n) {
            return from >= 0 && n >= 0 && (long) from + n <= lengthOf(slot);
        }

        private long valueAt(int slot, int i) {
            return holds(slot, i, 1) ? rows[slot][i] : 0;
        }

        private boolean areOfOneWidth(int slot, int other) {
            return isSlot(slot) && isSlot(other) && widths[slot] == widths[other];
        }

        private int inUse() {
            int many = 0;
            for (int slot = 0; slot < SLOTS; slot++) {
                if (used[slot]) {
                    many++;
                }
            }
            return many;
        }

        private void begin(int slot, int width, int n) {
            if (isSlot(slot) && n >= 0 && n <= MOST) {
                Arrays.fill(rows[slot], 0L);
                lengths[slot] = n;
                widths[slot] = width;
                used[slot] = true;
            }
        }

        private void put(int slot, int i, long v) {
            if (holds(slot, i, 1)) {
                rows[slot][i] = cut(v, widths[slot]);
            }
        }

        private static long cut(long v, int width) {
            switch (width) {
                case 0:
                    return (byte) v;
                case 1:
                    return (short) v;
                case 2:
                    return (int) v;
                default:
                    return v;
            }
        }

        private void move(int slot, int i, int to, int k, int n) {
            if (holds(slot, i, n) && holds(to, k, n)) {
                System.arraycopy(rows[slot], i, rows[to], k, n);
            }
        }
    }

    /** Counts choices of called NUMBERS, and tells FRACTIONS. */
    private static final class Chances {
        private static long choose(int n, int k) {
            if (k < 0 || k > n) {
                return 0;
            }
            long ways = 1;
            for (int i = 0; i < k; i++) {
                ways = ways * (n - i) / (i + 1);
            }
            return ways;
        }

        /**
         * In how many choices of n of all NUMBERS at least so many of some groups, alike in size
         * and apart, are whole: by inclusion and exclusion over the groups that are.
         */
        private static long drawsWith(int all, int n, int groups, int size, int least) {
            long sum = 0;
            for (int whole = least; whole <= groups; whole++) {
                long ways = choose(groups, whole) * choose(all - whole * size, n - whole * size);
                long weighed = choose(whole - 1, least - 1) * ways;
                sum += (whole - least) % 2 == 0 ? weighed : -weighed;
            }
            return sum;
        }

        private static long told(long above, long below, int what) {
            long divisor = commonDivisor(above, below);
            if (divisor < 1) {
                return 0;
            }
            return what == 0 ? above / divisor : below / divisor;
        }

        private static long commonDivisor(long one, long other) {
            long a = one;
            long b = other;
            for (int step = 0; step < 1000 && b != 0; step++) {
                long rest = a % b;
                a = b;
                b = rest;
            }
            return a;
        }
    }
}
