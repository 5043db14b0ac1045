/**
 * A reckoner of a structured note on the worst of two assets: a barrier, coupons that may
 * remember those missed, early ends, and what the note is worth by a tree of moves and by all
 * paths.
 *
 * <p>A row of moves is held as an int: its bit i is 1 if the move i (counted from 0) is up.
 */
public final class Barrierbook {
    /** There is none. */
    public static final int NONE = -1;

    private static final int MOST_PERIODS = 8;
    private static final int MOST_ROWS = 1 << MOST_PERIODS;
    private static final int PRICE_AT_FIRST = 500;
    private static final int LEAST_FIRST = 100;
    private static final int MOST_FIRST = 1000;
    private static final int MOST_STEP = 200;
    private static final int LEAST_PRICE = 1;
    private static final int FIRST_LEVEL = 100;
    private static final int WHOLE_WEIGHT = 10;
    private static final int MOST_BARRIER = 100;
    private static final int MOST_COUPON_LEVEL = 150;
    private static final int MOST_CALL_LEVEL = 200;
    private static final int MOST_COUPON = 500;
    private static final int PAID_BACK = 1000;
    private static final int PAID_BY_LEVEL = 10;

    private final Note note = new Note();
    private final Standing now = new Standing();
    private final Standing walker = new Standing();
    private final Tree tree = new Tree();
    private int moves = 0;

    /** Begins with the note as the document tells it; no move is told. */
    public Barrierbook() {
    }

    // ---- the note and its assets; each of these forgets all moves

    /** Sets an asset; its price is its first one. */
    public void setAsset(int asset, int first, int rise, int fall)
            throws IndexOutOfBoundsException, IllegalArgumentException {
        if (!isAsset(asset)) {
            throw new IndexOutOfBoundsException("the asset is not 0 or 1");
        }
        if (!isWithin(first, LEAST_FIRST, MOST_FIRST)
                || !isWithin(rise, 0, MOST_STEP)
                || !isWithin(fall, 0, MOST_STEP)) {
            throw new IllegalArgumentException("first, rise or fall is out of range");
        }
        Asset set = asset == 0 ? note.asset0 : note.asset1;
        set.first = first;
        set.rise = rise;
        set.fall = fall;
        now.begin(note);
    }

    /** Tells whether the asset 1 goes against, and the chance. */
    public void setMoves(boolean isAgainst, int chance) throws IllegalArgumentException {
        if (!isWithin(chance, 1, WHOLE_WEIGHT - 1)) {
            throw new IllegalArgumentException("the chance is out of range");
        }
        note.isAgainst = isAgainst;
        note.chance = chance;
        now.begin(note);
    }

    /** Sets the note. */
    public void setNote(int periods, int barrier, int couponLevel, int callLevel, int coupon)
            throws IllegalArgumentException {
        if (!isWithin(periods, 1, MOST_PERIODS)
                || !isWithin(barrier, 0, MOST_BARRIER)
                || !isWithin(couponLevel, 0, MOST_COUPON_LEVEL)
                || !isWithin(callLevel, 0, MOST_CALL_LEVEL)
                || !isWithin(coupon, 0, MOST_COUPON)) {
            throw new IllegalArgumentException(
                    "periods, barrier, couponLevel, callLevel or coupon is out of range");
        }
        note.periods = periods;
        note.barrier = barrier;
        note.couponLevel = couponLevel;
        note.callLevel = callLevel;
        note.coupon = coupon;
        now.begin(note);
    }

    /** Tells whether the barrier is asked at the end alone, and whether coupons are remembered. */
    public void setKind(boolean isAtEnd, boolean remembers) {
        note.isAtEnd = isAtEnd;
        note.remembers = remembers;
        now.begin(note);
    }

    // ---- moves

    /** Tells the move of the next period; answers what is paid in this period. */
    public int tell(boolean isUp) throws IllegalStateException {
        if (now.isOver) {
            throw new IllegalStateException("the note is over");
        }
        int bit = 1 << now.told;
        moves = isUp ? moves | bit : moves & ~bit;
        now.move(note, isUp);
        return now.paidLast;
    }

    /** Takes the last move back; answers what was paid in its period. */
    public int takeBack() throws IllegalStateException {
        if (now.told < 1) {
            throw new IllegalStateException("no move is told");
        }
        int paidBack = now.paidLast;
        int kept = now.told - 1;
        now.begin(note);
        for (int i = 0; i < kept; i++) {
            now.move(note, isUpAt(moves, i));
        }
        return paidBack;
    }

    /** Answers how many moves are told. */
    public int told() {
        return now.told;
    }

    /** Answers the price of an asset. */
    public int price(int asset) throws IndexOutOfBoundsException {
        if (!isAsset(asset)) {
            throw new IndexOutOfBoundsException("the asset is not 0 or 1");
        }
        return asset == 0 ? now.price0 : now.price1;
    }

    /** Answers the lesser level of both assets. */
    public int worst() {
        return now.worstLevel(note);
    }

    /** Answers whether the note is knocked. */
    public boolean isKnocked() {
        return now.isKnocked;
    }

    /** Answers how many periods are missed. */
    public int missed() {
        return now.missed;
    }

    /** Answers all that was paid so far. */
    public int paid() {
        return now.paidInAll;
    }

    /** Answers whether the note is over. */
    public boolean isOver() {
        return now.isOver;
    }

    // ---- what the note is worth

    /** Answers the first number of the worth, found period by period. */
    public long worth() {
        tree.grow(note, now);
        return tree.paidSum;
    }

    /** Answers the first number of the worth, found by all rows of moves. */
    public long worthByPaths() {
        if (now.isOver) {
            return 0;
        }
        int left = note.periods - now.told;
        long sum = 0;
        for (int row = 0; row < MOST_ROWS && row < 1 << left; row++) {
            sum += worthOfRow(row, left);
        }
        return sum;
    }

    /** Answers the second number of the worth. */
    public long divisor() {
        return now.isOver ? 1 : wholeWeightOf(note.periods - now.told);
    }

    /** Answers how many unlike states the note can be in behind the last period. */
    public int states() {
        tree.grow(note, now);
        return tree.lastStates;
    }

    /** Answers the least that can be paid from now on. */
    public int least() {
        tree.grow(note, now);
        return tree.leastPaid;
    }

    /** Answers the most that can be paid from now on. */
    public int most() {
        tree.grow(note, now);
        return tree.mostPaid;
    }

    /** Answers the weights' sum of the rows of moves by which the note is over in a period. */
    public long endsIn(int period) throws IllegalArgumentException {
        if (!isWithin(period, 1, note.periods)) {
            throw new IllegalArgumentException("the period is out of range");
        }
        tree.grow(note, now);
        return tree.endSumOf(period);
    }

    /** Answers the weights' sum of the rows of moves by which the note is knocked at its end. */
    public long knocks() {
        tree.grow(note, now);
        return tree.knockedSum;
    }

    // ---- helpers

    /**
     * What one row of moves adds to the worth. Rows that differ only behind the note's end are
     * the same row; the one without a move up there stands for them all.
     */
    private long worthOfRow(int row, int left) {
        walker.copy(now);
        long weight = 1;
        for (int i = 0; i < left; i++) {
            boolean isUp = isUpAt(row, i);
            if (walker.isOver && isUp) {
                return 0;
            }
            if (walker.isOver) {
                weight *= WHOLE_WEIGHT;
            } else {
                weight *= note.weightOf(isUp);
                walker.move(note, isUp);
            }
        }
        return weight * (walker.paidInAll - now.paidInAll);
    }

    private static boolean isUpAt(int row, int index) {
        return (row >> index & 1) == 1;
    }

    private static boolean isAsset(int asset) {
        return asset == 0 || asset == 1;
    }

    private static boolean isWithin(int value, int from, int to) {
        return value >= from && value <= to;
    }

    /** The weight of all rows of so many moves together. */
    private static long wholeWeightOf(int periods) {
        long weight = 1;
        for (int i = 0; i < periods && i < MOST_PERIODS; i++) {
            weight *= WHOLE_WEIGHT;
        }
        return weight;
    }

    /** What is set of an asset. */
    private static final class Asset {
        int first = PRICE_AT_FIRST;
        int rise = 50;
        int fall = 40;

        int priceBehind(int price, boolean isRising) {
            return isRising ? price + rise : Math.max(LEAST_PRICE, price - fall);
        }

        int levelAt(int price) {
            return first < LEAST_FIRST ? 0 : price * FIRST_LEVEL / first;
        }
    }

    /** What is set of the note, its assets and their moves. */
    private static final class Note {
        final Asset asset0 = new Asset();
        final Asset asset1 = new Asset();
        boolean isAgainst = false;
        int chance = 5;
        int periods = 4;
        int barrier = 60;
        int couponLevel = 80;
        int callLevel = 100;
        int coupon = 50;
        boolean isAtEnd = false;
        boolean remembers = false;

        int weightOf(boolean isUp) {
            return isUp ? chance : WHOLE_WEIGHT - chance;
        }
    }

    /** How the note stands behind some moves, and what was paid in them. */
    private static final class Standing {
        int told = 0;
        int price0 = PRICE_AT_FIRST;
        int price1 = PRICE_AT_FIRST;
        int missed = 0;
        boolean isKnocked = false;
        boolean isOver = false;
        int paidLast = 0;
        int paidInAll = 0;

        void begin(Note note) {
            told = 0;
            price0 = note.asset0.first;
            price1 = note.asset1.first;
            missed = 0;
            isKnocked = false;
            isOver = false;
            paidLast = 0;
            paidInAll = 0;
        }

        void copy(Standing other) {
            told = other.told;
            price0 = other.price0;
            price1 = other.price1;
            missed = other.missed;
            isKnocked = other.isKnocked;
            isOver = other.isOver;
            paidLast = other.paidLast;
            paidInAll = other.paidInAll;
        }

        int worstLevel(Note note) {
            return Math.min(note.asset0.levelAt(price0), note.asset1.levelAt(price1));
        }

        /** Makes the move of the next period, and all that comes behind it in this period. */
        void move(Note note, boolean isUp) {
            told++;
            price0 = note.asset0.priceBehind(price0, isUp);
            price1 = note.asset1.priceBehind(price1, isUp != note.isAgainst);
            boolean isLast = told >= note.periods;
            int level = worstLevel(note);
            if (level < note.barrier && (isLast || !note.isAtEnd)) {
                isKnocked = true;
            }
            paidLast = takeCoupons(note, level);
            if (isLast || level >= note.callLevel) {
                isOver = true;
                paidLast += endPay(level, isLast);
            }
            paidInAll += paidLast;
        }

        private int takeCoupons(Note note, int level) {
            if (level < note.couponLevel) {
                missed++;
                return 0;
            }
            int coupons = note.remembers ? 1 + missed : 1;
            missed = 0;
            return coupons * note.coupon;
        }

        private int endPay(int level, boolean isLast) {
            boolean isLoss = isLast && isKnocked && level < FIRST_LEVEL;
            return isLoss ? PAID_BY_LEVEL * level : PAID_BACK;
        }
    }

    /**
     * The unlike states that the note can be in behind one period, each with the weight of the
     * rows of moves that lead to it and the least and most paid in one of them.
     */
    private static final class Layer {
        final int[] prices0 = new int[MOST_ROWS];
        final int[] prices1 = new int[MOST_ROWS];
        final int[] misses = new int[MOST_ROWS];
        final boolean[] knocked = new boolean[MOST_ROWS];
        final long[] weights = new long[MOST_ROWS];
        final int[] leasts = new int[MOST_ROWS];
        final int[] mosts = new int[MOST_ROWS];
        int size = 0;

        boolean holds(int index) {
            return index >= 0 && index < size && index < MOST_ROWS;
        }

        void add(Standing standing, long weight, int leastPaid, int mostPaid) {
            int index = find(standing);
            if (holds(index)) {
                weights[index] += weight;
                leasts[index] = Math.min(leasts[index], leastPaid);
                mosts[index] = Math.max(mosts[index], mostPaid);
            } else if (size >= 0 && size < MOST_ROWS) {
                prices0[size] = standing.price0;
                prices1[size] = standing.price1;
                misses[size] = standing.missed;
                knocked[size] = standing.isKnocked;
                weights[size] = weight;
                leasts[size] = leastPaid;
                mosts[size] = mostPaid;
                size++;
            }
        }

        private int find(Standing standing) {
            for (int i = 0; i < size && i < MOST_ROWS; i++) {
                if (prices0[i] == standing.price0
                        && prices1[i] == standing.price1
                        && misses[i] == standing.missed
                        && knocked[i] == standing.isKnocked) {
                    return i;
                }
            }
            return NONE;
        }

        /** Lets a standing be the state at an index that this layer holds, behind some period. */
        void show(int index, int period, Standing standing) {
            if (!holds(index)) {
                return;
            }
            standing.told = period;
            standing.price0 = prices0[index];
            standing.price1 = prices1[index];
            standing.missed = misses[index];
            standing.isKnocked = knocked[index];
            standing.isOver = false;
            standing.paidLast = 0;
            standing.paidInAll = 0;
        }
    }

    /**
     * The tree of moves behind a standing, grown period by period with like states taken
     * together. Its two layers are the room for all periods: made once, used in turns.
     */
    private static final class Tree {
        private final Standing branch = new Standing();
        private final long[] endSums = new long[MOST_PERIODS + 1];
        private Layer from = new Layer();
        private Layer to = new Layer();
        long paidSum = 0;
        long knockedSum = 0;
        int lastStates = 0;
        int leastPaid = 0;
        int mostPaid = 0;

        void grow(Note note, Standing start) {
            clear();
            if (start.isOver) {
                knockedSum = start.isKnocked ? 1 : 0;
                lastStates = 1;
                leastPaid = 0;
                return;
            }
            from.size = 0;
            from.add(start, 1, 0, 0);
            for (int period = start.told + 1; period <= note.periods; period++) {
                growPeriod(note, period);
            }
            lastStates = from.size;
        }

        long endSumOf(int period) {
            return period >= 0 && period < endSums.length ? endSums[period] : 0;
        }

        private void clear() {
            for (int i = 0; i < endSums.length; i++) {
                endSums[i] = 0;
            }
            paidSum = 0;
            knockedSum = 0;
            leastPaid = NONE;
            mostPaid = 0;
        }

        private void growPeriod(Note note, int period) {
            to.size = 0;
            for (int i = 0; i < from.size; i++) {
                growBranch(note, period, i, true);
                growBranch(note, period, i, false);
            }
            Layer grown = to;
            to = from;
            from = grown;
        }

        private void growBranch(Note note, int period, int index, boolean isUp) {
            if (!from.holds(index)) {
                return;
            }
            from.show(index, period - 1, branch);
            branch.move(note, isUp);
            long weight = from.weights[index] * note.weightOf(isUp);
            long wholeWeight = weight * wholeWeightOf(note.periods - period);
            int branchLeast = from.leasts[index] + branch.paidLast;
            int branchMost = from.mosts[index] + branch.paidLast;
            paidSum += wholeWeight * branch.paidLast;
            if (branch.isOver) {
                end(period, wholeWeight, branchLeast, branchMost);
            }
            if (!branch.isOver || period == note.periods) {
                to.add(branch, weight, branchLeast, branchMost);
            }
        }

        private void end(int period, long wholeWeight, int branchLeast, int branchMost) {
            if (period >= 0 && period < endSums.length) {
                endSums[period] += wholeWeight;
            }
            if (branch.isKnocked) {
                knockedSum += wholeWeight;
            }
            leastPaid = leastPaid == NONE ? branchLeast : Math.min(leastPaid, branchLeast);
            mostPaid = Math.max(mostPaid, branchMost);
        }
    }
}
