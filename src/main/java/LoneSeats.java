/**
 * A seat reservation system for a theatre: parties are seated side by side at the best place that
 * leaves no additional lone seats; others wait and are let in when seats become free.
 *
 * <p>Every array and object is made with the LoneSeats object; no call makes a new one.
 */
public final class LoneSeats {
    public static final int UNKNOWN = -1, OUTSIDE = -2, STATE = -3, FULL = -4, NONE = -9;

    private static final int LETTERS = 80;
    private static final int ROWS = 4;
    private static final int ROW_SEATS = 9;
    private static final int HALL_SEATS = ROWS * ROW_SEATS;
    private static final int ALL_ROWS = (1 << ROWS) - 1;
    private static final int TOP_PRICE = 9;
    private static final int TOP_FEE = 9;
    private static final int PARTIES = 30;
    private static final int TOP_SIZE = 6;
    private static final int QUEUE = 5;
    private static final int ACTS = 14;
    private static final int SLOTS = 2;
    private static final int SIGHTS = 6;
    private static final int STATEMENTS = 4;
    private static final int EVENTS = 20;
    private static final int TENTHS = 10;
    private static final int GCD_STEPS = 100;
    private static final long SEED_FACTOR = 6364136223846793005L;
    private static final long SEED_ADDEND = 1442695040888963407L;

    /** FACTORIALS[n] is n!, for up to four rows. */
    private static final int[] FACTORIALS = {1, 1, 2, 6, 24};

    private final Text text = new Text();
    private final Plan sketch = new Plan();
    private final Plan plan = new Plan();
    private final Bookings now = new Bookings();
    private final Bookings copy = new Bookings();
    private final Past past = new Past();
    private final Slots slots = new Slots();
    private final Sights sights = new Sights();
    private final Finder finder = new Finder();
    private final Odds odds = new Odds();
    private long seed;

    public LoneSeats() {
        seed = 0;
    }

    // ---- the hall

    public int write(int letter) {
        if (letter < 0 || letter > 255) {
            return OUTSIDE;
        }
        return text.append(letter) ? text.length() : FULL;
    }

    public int wipe() {
        int length = text.length();
        text.clear();
        return length;
    }

    public int fault() {
        return sketch.readFrom(text);
    }

    public int hall() {
        if (sketch.readFrom(text) != NONE) {
            return STATE;
        }
        plan.readFrom(text);
        now.open(plan);
        past.clear();
        slots.clear();
        return plan.rows();
    }

    public int row(int row, int what) {
        if (!plan.hasRow(row)) {
            return UNKNOWN;
        }
        switch (what) {
            case 0:
                return now.priceOf(row);
            case 1:
                return plan.seatsIn(row);
            case 2:
                return plan.blocksIn(row);
            case 3:
                return now.freeIn(row);
            case 4:
                return plan.loneOf(row, now.freeIn(row));
            default:
                return OUTSIDE;
        }
    }

    public int seat(int row, int seat, int what) {
        if (!plan.hasSeat(row, seat)) {
            return UNKNOWN;
        }
        switch (what) {
            case 0:
                return plan.viewOf(row, seat);
            case 1:
                return plan.hasAisleAfter(row, seat) ? 1 : 0;
            case 2:
                return now.takerOf(row, seat);
            default:
                return OUTSIDE;
        }
    }

    public int party(int party, int what) {
        if (!now.knows(party)) {
            return UNKNOWN;
        }
        boolean seated = now.isSeated(party);
        switch (what) {
            case 0:
                return now.sizeOf(party);
            case 1:
                return now.limitOf(party);
            case 2:
                return seated ? 1 : now.isWaiting(party) ? 2 : 0;
            case 3:
                return seated ? rowOf(now.placeOf(party)) : NONE;
            case 4:
                return seated ? firstOf(now.placeOf(party)) : NONE;
            case 5:
                return now.paidBy(party);
            default:
                return OUTSIDE;
        }
    }

    // ---- acts

    public int ask(int size, int limit) {
        if (!isSize(size) || !isPrice(limit)) {
            return OUTSIDE;
        }
        int place = finder.look(plan, now, size, limit, 0, ALL_ROWS);
        if (now.isFullFor(place)) {
            return FULL;
        }
        past.remember(now);
        return now.admit(size, limit, place);
    }

    public int giveBack(int party) {
        if (!now.knows(party)) {
            return UNKNOWN;
        }
        if (!now.isSeated(party)) {
            return STATE;
        }
        past.remember(now);
        int back = now.release(party);
        letIn(now);
        return back;
    }

    public int leave(int party) {
        if (!now.knows(party)) {
            return UNKNOWN;
        }
        if (!now.isWaiting(party)) {
            return STATE;
        }
        past.remember(now);
        now.dequeue(party);
        return now.waiting();
    }

    public int shift(int party) {
        if (!now.knows(party)) {
            return UNKNOWN;
        }
        if (!now.isSeated(party)) {
            return STATE;
        }
        int place = placeInsteadFor(party);
        int gain = finder.quality() - plan.qualityOf(now.placeOf(party), now.sizeOf(party));
        if (place == NONE || gain <= 0) {
            return STATE;
        }
        past.remember(now);
        now.move(party, place);
        letIn(now);
        return gain;
    }

    public int price(int row, int v) {
        if (!plan.hasRow(row)) {
            return UNKNOWN;
        }
        if (!isPrice(v)) {
            return OUTSIDE;
        }
        int previous = now.priceOf(row);
        past.remember(now);
        now.setPrice(row, v);
        letIn(now);
        return previous;
    }

    public int fee(int v) {
        if (v < 0 || v > TOP_FEE) {
            return OUTSIDE;
        }
        int previous = now.currentFee();
        past.remember(now);
        now.setFee(v);
        return previous;
    }

    public int undo() {
        if (past.acts() == 0) {
            return STATE;
        }
        past.restore(now);
        return past.acts();
    }

    // ---- places, judgements

    public int best(int size, int limit, int what) {
        if (!isSize(size) || !isPrice(limit) || what < 0 || what > 2) {
            return OUTSIDE;
        }
        int place = finder.look(plan, now, size, limit, 0, ALL_ROWS);
        if (what == 2) {
            return finder.places();
        }
        if (place == NONE) {
            return NONE;
        }
        return what == 0 ? place : finder.quality();
    }

    public int room(int size) {
        if (!isSize(size)) {
            return OUTSIDE;
        }
        copy.copyFrom(now);
        for (int seated = 0; seated < HALL_SEATS; seated++) {
            int place = finder.look(plan, copy, size, TOP_PRICE, 0, ALL_ROWS);
            if (place == NONE) {
                return seated;
            }
            copy.take(place, size);
        }
        return HALL_SEATS;
    }

    public int waits(int place) {
        return now.waitingAt(place);
    }

    public int judge(int n, long row) {
        if (n < 1 || n > STATEMENTS || row < 0) {
            return OUTSIDE;
        }
        long limit = 1;
        for (int i = 0; i < n; i++) {
            limit *= 1000;
        }
        if (row >= limit) {
            return OUTSIDE;
        }
        // Filled up behind to four statements, so that the next one is always above the ninth digit.
        long rest = row;
        for (int i = n; i < STATEMENTS; i++) {
            rest *= 1000;
        }
        copy.copyFrom(now);
        for (int i = 0; i < n; i++) {
            if (!holds((int) (rest / 1000000000L))) {
                return i;
            }
            rest = rest % 1000000000L * 1000;
        }
        return NONE;
    }

    // ---- observations

    public int see(int row, int seat, int was) {
        if (!plan.hasSeat(row, seat)) {
            return UNKNOWN;
        }
        if (was < 0 || was > 1) {
            return OUTSIDE;
        }
        return sights.add(row, seat, was == 1) ? sights.number() : FULL;
    }

    public int unsee() {
        int number = sights.number();
        sights.clear();
        return number;
    }

    public int which() {
        int absent = 0;
        for (int p = 1; p <= now.asked(); p++) {
            if (now.isSeated(p) && sights.allowAbsence(plan, now, p)) {
                absent |= 1 << p;
            }
        }
        return absent;
    }

    // ---- shares, chances

    public int share(int row, int size, boolean upper) {
        if (!plan.hasRow(row)) {
            return UNKNOWN;
        }
        if (!isSize(size)) {
            return OUTSIDE;
        }
        int rows = plan.rows();
        int own = 1 << row;
        long sum = 0;
        for (int open = 0; open < 1 << rows; open++) {
            if ((open & own) == 0) {
                int before = Integer.bitCount(open);
                int orders = factorial(before) * factorial(rows - 1 - before);
                sum += (long) orders * (qualityWith(open | own, size) - qualityWith(open, size));
            }
        }
        return lowestTerms(sum, factorial(rows), upper);
    }

    public int away(int row, int v, int x, boolean upper) {
        if (!plan.hasRow(row)) {
            return UNKNOWN;
        }
        if (v < 0 || v > ROW_SEATS || x < 0 || x > TENTHS) {
            return OUTSIDE;
        }
        odds.begin();
        for (int p = 1; p <= now.asked(); p++) {
            if (now.isSeated(p) && rowOf(now.placeOf(p)) == row) {
                odds.add(now.sizeOf(p), x);
            }
        }
        return lowestTerms(odds.atLeast(v), odds.whole(), upper);
    }

    public long seed(long v) {
        long previous = seed;
        seed = v;
        return previous;
    }

    public int drawn(int m) {
        if (m < 1 || m > EVENTS) {
            return OUTSIDE;
        }
        copy.copyFrom(now);
        for (int i = 0; i < m; i++) {
            seed = seed * SEED_FACTOR + SEED_ADDEND;
            happen((int) (seed >>> 33));
        }
        return copy.takings() - now.takings();
    }

    // ---- slots, counts

    public int keep(int slot) {
        if (!slots.has(slot)) {
            return UNKNOWN;
        }
        slots.put(slot, now);
        return now.asked();
    }

    public int again(int slot) {
        if (!slots.has(slot)) {
            return UNKNOWN;
        }
        if (!slots.isFilled(slot)) {
            return STATE;
        }
        slots.restore(slot, now);
        past.clear();
        return now.asked();
    }

    public int count(int what) {
        switch (what) {
            case 0:
                return text.length();
            case 1:
                return plan.rows();
            case 2:
                return now.asked();
            case 3:
                return now.waiting();
            case 4:
                return now.seated();
            case 5:
                return now.freeSeats();
            case 6:
                return plan.loneSeats(now);
            case 7:
                return now.currentFee();
            case 8:
                return now.takings();
            case 9:
                return past.acts();
            case 10:
                return sights.number();
            default:
                return OUTSIDE;
        }
    }

    // ---- what the calls share

    private static boolean isSize(int size) {
        return size >= 1 && size <= TOP_SIZE;
    }

    private static boolean isPrice(int price) {
        return price >= 1 && price <= TOP_PRICE;
    }

    /** A place is held as the document writes it: 10 * row + first seat. */
    private static int placeAt(int row, int first) {
        return 10 * row + first;
    }

    private static int rowOf(int place) {
        return place / 10;
    }

    private static int firstOf(int place) {
        return place % 10;
    }

    /** The set of the seats first to first + size - 1. */
    private static int span(int first, int size) {
        return ((1 << size) - 1) << first;
    }

    private static int factorial(int n) {
        return n >= 0 && n < FACTORIALS.length ? FACTORIALS[n] : 0;
    }

    private static int lowestTerms(long numerator, long denominator, boolean upper) {
        long divisor = denominator;
        long rest = numerator;
        for (int i = 0; i < GCD_STEPS && rest != 0; i++) {
            long next = divisor % rest;
            divisor = rest;
            rest = next;
        }
        if (divisor <= 0) {
            return 0;
        }
        return (int) ((upper ? numerator : denominator) / divisor);
    }

    /** The best place of a seated party as if its own seats were free. */
    private int placeInsteadFor(int party) {
        int size = now.sizeOf(party);
        copy.copyFrom(now);
        copy.clear(now.placeOf(party), size);
        // Lone seats are compared with those of now, not with those of the copy.
        int moreLone = plan.loneSeats(now) - plan.loneSeats(copy);
        return finder.look(plan, copy, size, now.limitOf(party), moreLone, ALL_ROWS);
    }

    /** The quality of the best place in a set of open rows, 0 if there is no place. */
    private int qualityWith(int open, int size) {
        finder.look(plan, now, size, TOP_PRICE, 0, open);
        return finder.quality();
    }

    private void letIn(Bookings bookings) {
        int turns = bookings.waiting();
        int position = 0;
        for (int i = 0; i < turns; i++) {
            int party = bookings.waitingAt(position);
            int size = bookings.sizeOf(party);
            int limit = bookings.limitOf(party);
            int place = finder.look(plan, bookings, size, limit, 0, ALL_ROWS);
            if (place == NONE) {
                position++;
            } else {
                bookings.dequeue(party);
                bookings.settle(party, place);
            }
        }
    }

    /** Carries out or checks one statement of judge() on the copy; false if it is wrong. */
    private boolean holds(int statement) {
        int a = statement / 10 % 10;
        int b = statement % 10;
        int ab = statement % 100;
        switch (statement / 100) {
            case 1:
                return asksAndSits(a, b);
            case 2:
                return givesBack(ab);
            case 3:
                return becomesPrice(a, b);
            case 4:
                return plan.hasSeat(a, b) && (plan.loneOf(a, copy.freeIn(a)) & 1 << b) != 0;
            case 5:
                return copy.freeSeats() == ab;
            case 6:
                return copy.isSeated(ab);
            case 7:
                return isSize(a) && isPrice(b)
                        && finder.look(plan, copy, a, b, 0, ALL_ROWS) != NONE;
            default:
                return false;
        }
    }

    private boolean asksAndSits(int size, int limit) {
        if (!isSize(size) || !isPrice(limit)) {
            return false;
        }
        int place = finder.look(plan, copy, size, limit, 0, ALL_ROWS);
        if (place == NONE || copy.isFullFor(place)) {
            return false;
        }
        copy.admit(size, limit, place);
        return true;
    }

    private boolean givesBack(int party) {
        if (!copy.isSeated(party)) {
            return false;
        }
        copy.release(party);
        letIn(copy);
        return true;
    }

    private boolean becomesPrice(int row, int price) {
        if (!plan.hasRow(row) || !isPrice(price)) {
            return false;
        }
        copy.setPrice(row, price);
        letIn(copy);
        return true;
    }

    /** One random event of drawn() on the copy; v is not negative. */
    private void happen(int v) {
        if (v % 4 != 3) {
            int size = 1 + v / 4 % 6;
            int limit = 1 + v / 24 % 9;
            int place = finder.look(plan, copy, size, limit, 0, ALL_ROWS);
            if (!copy.isFullFor(place)) {
                copy.admit(size, limit, place);
            }
            return;
        }
        int seated = copy.seated();
        if (seated > 0) {
            givesBack(copy.seatedAt(v / 4 % seated));
        }
    }

    /** The text that describes a hall. */
    private static final class Text {
        private final int[] letters = new int[LETTERS];
        private int length;

        int length() {
            return length;
        }

        int letterAt(int index) {
            return index >= 0 && index < length ? letters[index] : NONE;
        }

        boolean append(int letter) {
            if (length < 0 || length >= LETTERS) {
                return false;
            }
            letters[length] = letter;
            length++;
            return true;
        }

        void clear() {
            length = 0;
        }
    }

    /** What of a hall never changes: rows, seats, aisles, views, and the prices at the start. */
    private static final class Plan {
        private static final int HEAD = 0;
        private static final int FIRST_ROW = 1;
        private static final int PRICE = 2;
        private static final int VIEW = 3;
        private static final int MORE = 4;

        private final int[] prices = new int[ROWS];
        private final int[] seats = new int[ROWS];
        /** Bit s: the seats s and s + 1 are in one block. */
        private final int[] joined = new int[ROWS];
        private final int[] views = new int[HALL_SEATS];
        private int rows;
        /** What the text must go on with while it is read. */
        private int awaited;

        /** Reads a text up to its fault; the result is that of fault(). */
        int readFrom(Text text) {
            rows = 0;
            awaited = HEAD;
            for (int i = 0; i < text.length(); i++) {
                if (!takes(text.letterAt(i))) {
                    return i;
                }
            }
            return awaited == FIRST_ROW || awaited == MORE ? NONE : text.length();
        }

        private boolean takes(int letter) {
            switch (letter) {
                case 'H':
                    return takesHead();
                case 'r':
                    return takesRow();
                case '|':
                    return takesAisle();
                default:
                    return letter >= '0' && letter <= '9' && takesDigit(letter - '0');
            }
        }

        private boolean takesHead() {
            if (awaited != HEAD) {
                return false;
            }
            awaited = FIRST_ROW;
            return true;
        }

        private boolean takesRow() {
            if (awaited != FIRST_ROW && awaited != MORE || rows < 0 || rows >= ROWS) {
                return false;
            }
            seats[rows] = 0;
            joined[rows] = 0;
            rows++;
            awaited = PRICE;
            return true;
        }

        private boolean takesAisle() {
            if (awaited != MORE || seatsIn(rows - 1) >= ROW_SEATS) {
                return false;
            }
            awaited = VIEW;
            return true;
        }

        private boolean takesDigit(int digit) {
            if (!hasRow(rows - 1)) {
                return false;
            }
            if (awaited == PRICE) {
                return takesPrice(rows - 1, digit);
            }
            return (awaited == VIEW || awaited == MORE) && takesView(rows - 1, digit);
        }

        private boolean takesPrice(int row, int price) {
            if (price == 0) {
                return false;
            }
            prices[row] = price;
            awaited = VIEW;
            return true;
        }

        private boolean takesView(int row, int view) {
            int seat = seats[row];
            if (seat < 0 || seat >= ROW_SEATS) {
                return false;
            }
            if (awaited == MORE) {
                joined[row] |= 1 << seat - 1;
            }
            views[row * ROW_SEATS + seat] = view;
            seats[row] = seat + 1;
            awaited = MORE;
            return true;
        }

        int rows() {
            return rows;
        }

        boolean hasRow(int row) {
            return row >= 0 && row < rows;
        }

        boolean hasSeat(int row, int seat) {
            return hasRow(row) && seat >= 0 && seat < seats[row];
        }

        int firstPrice(int row) {
            return hasRow(row) ? prices[row] : 0;
        }

        int seatsIn(int row) {
            return hasRow(row) ? seats[row] : 0;
        }

        int blocksIn(int row) {
            return hasRow(row) ? seats[row] - Integer.bitCount(joined[row]) : 0;
        }

        int viewOf(int row, int seat) {
            return hasSeat(row, seat) ? views[row * ROW_SEATS + seat] : 0;
        }

        boolean hasAisleAfter(int row, int seat) {
            return hasSeat(row, seat + 1) && (joined[row] & 1 << seat) == 0;
        }

        /** Whether no aisle is among the seats first to first + size - 1 of a row. */
        boolean isUnbroken(int row, int first, int size) {
            int joints = span(first, size - 1);
            return hasRow(row) && (joined[row] & joints) == joints;
        }

        /** The set of the lone seats of a row if these seats of it are free. */
        int loneOf(int row, int free) {
            if (!hasRow(row)) {
                return 0;
            }
            int besideNext = free >> 1 & joined[row];
            int besidePrevious = (free & joined[row]) << 1;
            return free & ~besideNext & ~besidePrevious;
        }

        int loneSeats(Bookings bookings) {
            int number = 0;
            for (int r = 0; r < rows; r++) {
                number += Integer.bitCount(loneOf(r, bookings.freeIn(r)));
            }
            return number;
        }

        int qualityOf(int place, int size) {
            int quality = 0;
            int first = rowOf(place) * ROW_SEATS + firstOf(place);
            for (int i = first; i < first + size; i++) {
                quality += i >= 0 && i < HALL_SEATS ? views[i] : 0;
            }
            return quality;
        }
    }

    /** What acts change and undo() restores: parties, seats, queue, prices, fee and takings. */
    private static final class Bookings {
        private final int[] prices = new int[ROWS];
        private final int[] free = new int[ROWS];
        /** The rows of parties begin at 1, as the parties do. */
        private final int[] sizes = new int[PARTIES + 1];
        private final int[] limits = new int[PARTIES + 1];
        private final int[] places = new int[PARTIES + 1];
        private final int[] paid = new int[PARTIES + 1];
        private final int[] queue = new int[QUEUE];
        private int asked;
        private int waiting;
        private int fee;
        private int takings;

        void open(Plan plan) {
            for (int r = 0; r < ROWS; r++) {
                prices[r] = plan.firstPrice(r);
                free[r] = span(0, plan.seatsIn(r));
            }
            asked = 0;
            waiting = 0;
            fee = 0;
            takings = 0;
        }

        void copyFrom(Bookings other) {
            if (other == null) {
                return;
            }
            System.arraycopy(other.prices, 0, prices, 0, ROWS);
            System.arraycopy(other.free, 0, free, 0, ROWS);
            System.arraycopy(other.sizes, 0, sizes, 0, PARTIES + 1);
            System.arraycopy(other.limits, 0, limits, 0, PARTIES + 1);
            System.arraycopy(other.places, 0, places, 0, PARTIES + 1);
            System.arraycopy(other.paid, 0, paid, 0, PARTIES + 1);
            System.arraycopy(other.queue, 0, queue, 0, QUEUE);
            asked = other.asked;
            waiting = other.waiting;
            fee = other.fee;
            takings = other.takings;
        }

        int asked() {
            return asked;
        }

        int waiting() {
            return waiting;
        }

        int currentFee() {
            return fee;
        }

        void setFee(int v) {
            fee = v;
        }

        int takings() {
            return takings;
        }

        private static boolean isRow(int row) {
            return row >= 0 && row < ROWS;
        }

        int priceOf(int row) {
            return isRow(row) ? prices[row] : 0;
        }

        void setPrice(int row, int price) {
            if (isRow(row)) {
                prices[row] = price;
            }
        }

        int freeIn(int row) {
            return isRow(row) ? free[row] : 0;
        }

        int freeSeats() {
            int number = 0;
            for (int r = 0; r < ROWS; r++) {
                number += Integer.bitCount(free[r]);
            }
            return number;
        }

        void take(int place, int size) {
            int row = rowOf(place);
            if (isRow(row)) {
                free[row] &= ~span(firstOf(place), size);
            }
        }

        void clear(int place, int size) {
            int row = rowOf(place);
            if (isRow(row)) {
                free[row] |= span(firstOf(place), size);
            }
        }

        boolean knows(int party) {
            return party >= 1 && party <= asked;
        }

        int sizeOf(int party) {
            return knows(party) ? sizes[party] : 0;
        }

        int limitOf(int party) {
            return knows(party) ? limits[party] : 0;
        }

        /** NONE if the party is not seated. */
        int placeOf(int party) {
            return knows(party) ? places[party] : NONE;
        }

        /** 0 if the party is not seated. */
        int paidBy(int party) {
            return knows(party) ? paid[party] : 0;
        }

        boolean isSeated(int party) {
            return placeOf(party) != NONE;
        }

        boolean isWaiting(int party) {
            return positionOf(party) != NONE;
        }

        int seated() {
            int number = 0;
            for (int p = 1; p <= asked; p++) {
                if (isSeated(p)) {
                    number++;
                }
            }
            return number;
        }

        /** The seated party with this index, from 0, in ascending order; NONE if there is none. */
        int seatedAt(int index) {
            int before = 0;
            for (int p = 1; p <= asked; p++) {
                if (isSeated(p)) {
                    if (before == index) {
                        return p;
                    }
                    before++;
                }
            }
            return NONE;
        }

        /** The party that has taken a seat, 0 if it is free. */
        int takerOf(int row, int seat) {
            for (int p = 1; p <= asked; p++) {
                int ahead = placeAt(row, seat) - placeOf(p);
                if (isSeated(p) && ahead >= 0 && ahead < sizeOf(p)) {
                    return p;
                }
            }
            return 0;
        }

        private int positionOf(int party) {
            for (int i = 0; i < waiting && i < QUEUE; i++) {
                if (queue[i] == party) {
                    return i;
                }
            }
            return NONE;
        }

        int waitingAt(int position) {
            return position >= 0 && position < waiting ? queue[position] : NONE;
        }

        /** Whether nobody more can ask who would get this place, or would wait if it is NONE. */
        boolean isFullFor(int place) {
            return asked >= PARTIES || place == NONE && waiting >= QUEUE;
        }

        /** Enters a new party, at a place or, if that is NONE, at the end of the queue. */
        int admit(int size, int limit, int place) {
            if (isFullFor(place)) {
                return FULL;
            }
            asked++;
            sizes[asked] = size;
            limits[asked] = limit;
            places[asked] = NONE;
            paid[asked] = 0;
            if (place == NONE) {
                queue[waiting] = asked;
                waiting++;
            } else {
                settle(asked, place);
            }
            return asked;
        }

        void settle(int party, int place) {
            if (!knows(party)) {
                return;
            }
            places[party] = place;
            paid[party] = sizes[party] * priceOf(rowOf(place));
            takings += paid[party];
            take(place, sizes[party]);
        }

        /** The party gives its seats back and is gone; the result is what it gets back. */
        int release(int party) {
            if (!isSeated(party)) {
                return 0;
            }
            int back = Math.max(0, paid[party] - sizes[party] * fee);
            clear(places[party], sizes[party]);
            places[party] = NONE;
            paid[party] = 0;
            takings -= back;
            return back;
        }

        void move(int party, int place) {
            if (!isSeated(party)) {
                return;
            }
            clear(places[party], sizes[party]);
            places[party] = place;
            take(place, sizes[party]);
        }

        void dequeue(int party) {
            int position = positionOf(party);
            if (position < 0) {
                return;
            }
            for (int i = position; i + 1 < waiting && i + 1 < QUEUE; i++) {
                queue[i] = queue[i + 1];
            }
            waiting--;
        }
    }

    /** Looks for the best place, and knows what it found last. */
    private static final class Finder {
        private int places;
        private int place;
        private int quality;
        private int price;

        int places() {
            return places;
        }

        /** The quality of the best place, 0 if there is none. */
        int quality() {
            return quality;
        }

        /** Looks in the open rows; the hall may have this many lone seats more then than before. */
        int look(Plan plan, Bookings bookings, int size, int limit, int moreLone, int open) {
            places = 0;
            place = NONE;
            quality = 0;
            price = 0;
            for (int r = 0; r < plan.rows(); r++) {
                if ((open & 1 << r) != 0 && bookings.priceOf(r) <= limit) {
                    lookInRow(plan, bookings, r, size, moreLone);
                }
            }
            return place;
        }

        private void lookInRow(Plan plan, Bookings bookings, int row, int size, int moreLone) {
            int free = bookings.freeIn(row);
            int mostLone = Integer.bitCount(plan.loneOf(row, free)) + moreLone;
            for (int s = 0; s + size <= plan.seatsIn(row); s++) {
                int wanted = span(s, size);
                if ((free & wanted) == wanted
                        && plan.isUnbroken(row, s, size)
                        && Integer.bitCount(plan.loneOf(row, free & ~wanted)) <= mostLone) {
                    int found = placeAt(row, s);
                    consider(found, plan.qualityOf(found, size), bookings.priceOf(row));
                }
            }
        }

        /** Places come in ascending order, so of equal ones the first is kept. */
        private void consider(int found, int itsQuality, int itsPrice) {
            places++;
            if (place == NONE || itsQuality > quality || itsQuality == quality && itsPrice < price) {
                place = found;
                quality = itsQuality;
                price = itsPrice;
            }
        }
    }

    /** The bookings as they were before each of the latest acts, in a ring. */
    private static final class Past {
        private final Bookings[] ring = new Bookings[ACTS];
        private int next;
        private int acts;

        Past() {
            for (int i = 0; i < ACTS; i++) {
                ring[i] = new Bookings();
            }
        }

        int acts() {
            return acts;
        }

        void clear() {
            acts = 0;
        }

        void remember(Bookings bookings) {
            if (next < 0 || next >= ACTS || ring[next] == null) {
                return;
            }
            ring[next].copyFrom(bookings);
            next = next + 1 < ACTS ? next + 1 : 0;
            acts = Math.min(acts + 1, ACTS);
        }

        void restore(Bookings bookings) {
            int latest = next > 0 ? next - 1 : ACTS - 1;
            if (acts <= 0 || latest >= ACTS) {
                return;
            }
            bookings.copyFrom(ring[latest]);
            next = latest;
            acts--;
        }
    }

    /** The bookings that keep() has put aside. */
    private static final class Slots {
        private final Bookings[] kept = new Bookings[SLOTS];
        private final boolean[] filled = new boolean[SLOTS];

        Slots() {
            for (int i = 0; i < SLOTS; i++) {
                kept[i] = new Bookings();
            }
        }

        boolean has(int slot) {
            return slot >= 0 && slot < SLOTS;
        }

        boolean isFilled(int slot) {
            return has(slot) && filled[slot];
        }

        void clear() {
            for (int i = 0; i < SLOTS; i++) {
                filled[i] = false;
            }
        }

        void put(int slot, Bookings bookings) {
            if (!has(slot) || kept[slot] == null) {
                return;
            }
            kept[slot].copyFrom(bookings);
            filled[slot] = true;
        }

        void restore(int slot, Bookings bookings) {
            if (isFilled(slot)) {
                bookings.copyFrom(kept[slot]);
            }
        }
    }

    /** The observations: on which seats somebody sat or nobody did. */
    private static final class Sights {
        private final int[] rows = new int[SIGHTS];
        private final int[] seats = new int[SIGHTS];
        private final boolean[] occupied = new boolean[SIGHTS];
        private int number;

        int number() {
            return number;
        }

        void clear() {
            number = 0;
        }

        boolean add(int row, int seat, boolean wasOccupied) {
            if (number < 0 || number >= SIGHTS) {
                return false;
            }
            rows[number] = row;
            seats[number] = seat;
            occupied[number] = wasOccupied;
            number++;
            return true;
        }

        /** Whether all observations are true if just this party is absent. */
        boolean allowAbsence(Plan plan, Bookings bookings, int party) {
            for (int i = 0; i < number && i < SIGHTS; i++) {
                if (plan.hasSeat(rows[i], seats[i])) {
                    int taker = bookings.takerOf(rows[i], seats[i]);
                    boolean sitsThere = taker != 0 && taker != party;
                    if (sitsThere != occupied[i]) {
                        return false;
                    }
                }
            }
            return true;
        }
    }

    /** How likely each number of occupied seats of a row is, as weights that have the sum whole. */
    private static final class Odds {
        private final long[] weights = new long[ROW_SEATS + 1];
        private long whole;

        void begin() {
            for (int i = 0; i <= ROW_SEATS; i++) {
                weights[i] = 0;
            }
            weights[0] = 1;
            whole = 1;
        }

        /** Adds a party that is absent with the probability x / 10. */
        void add(int size, int x) {
            if (size < 0) {
                return;
            }
            for (int i = ROW_SEATS; i >= 0; i--) {
                long present = i >= size ? weights[i - size] * (TENTHS - x) : 0;
                weights[i] = weights[i] * x + present;
            }
            whole *= TENTHS;
        }

        long whole() {
            return whole;
        }

        long atLeast(int seats) {
            long sum = 0;
            for (int i = Math.max(0, seats); i <= ROW_SEATS; i++) {
                sum += weights[i];
            }
            return sum;
        }
    }
}
