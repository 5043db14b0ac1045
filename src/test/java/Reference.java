import java.util.ArrayList;
import java.util.HashSet;
import java.util.List;
import java.util.Set;

/**
 * The document once more, in its plainest form, to compare with: it keeps the moves told alone,
 * makes every answer anew from the first price on, and knows nothing of like states.
 */
final class Reference {
    private final int[] first = {500, 500};
    private final int[] rise = {50, 50};
    private final int[] fall = {40, 40};
    private boolean isAgainst = false;
    private int chance = 5;
    private int periods = 4;
    private int barrier = 60;
    private int couponLevel = 80;
    private int callLevel = 100;
    private int coupon = 50;
    private boolean isAtEnd = false;
    private boolean remembers = false;
    private final List<Boolean> moves = new ArrayList<>();

    /** What stands behind some moves. */
    private static final class Outcome {
        final int[] price = new int[2];
        int worst;
        boolean isKnocked;
        int missed;
        int paidLast;
        int paid;
        boolean isOver;
    }

    void setAsset(int asset, int newFirst, int newRise, int newFall) {
        if (asset < 0 || asset > 1) {
            throw new IndexOutOfBoundsException();
        }
        demand(100, newFirst, 1000);
        demand(0, newRise, 200);
        demand(0, newFall, 200);
        first[asset] = newFirst;
        rise[asset] = newRise;
        fall[asset] = newFall;
        moves.clear();
    }

    void setMoves(boolean newIsAgainst, int newChance) {
        demand(1, newChance, 9);
        isAgainst = newIsAgainst;
        chance = newChance;
        moves.clear();
    }

    void setNote(int newPeriods, int newBarrier, int newCouponLevel, int newCallLevel, int newCoupon) {
        demand(1, newPeriods, 8);
        demand(0, newBarrier, 100);
        demand(0, newCouponLevel, 150);
        demand(0, newCallLevel, 200);
        demand(0, newCoupon, 500);
        periods = newPeriods;
        barrier = newBarrier;
        couponLevel = newCouponLevel;
        callLevel = newCallLevel;
        coupon = newCoupon;
        moves.clear();
    }

    void setKind(boolean newIsAtEnd, boolean newRemembers) {
        isAtEnd = newIsAtEnd;
        remembers = newRemembers;
        moves.clear();
    }

    int tell(boolean isUp) {
        if (isOver()) {
            throw new IllegalStateException();
        }
        moves.add(isUp);
        return outcome(moves).paidLast;
    }

    int takeBack() {
        if (moves.isEmpty()) {
            throw new IllegalStateException();
        }
        int paidBack = outcome(moves).paidLast;
        moves.remove(moves.size() - 1);
        return paidBack;
    }

    int told() {
        return moves.size();
    }

    int price(int asset) {
        if (asset < 0 || asset > 1) {
            throw new IndexOutOfBoundsException();
        }
        return outcome(moves).price[asset];
    }

    int worst() {
        return outcome(moves).worst;
    }

    boolean isKnocked() {
        return outcome(moves).isKnocked;
    }

    int missed() {
        return outcome(moves).missed;
    }

    int paid() {
        return outcome(moves).paid;
    }

    boolean isOver() {
        return outcome(moves).isOver;
    }

    long worth() {
        long sum = 0;
        for (List<Boolean> row : rowsLeft()) {
            sum += weight(row) * (outcome(row).paid - paid());
        }
        return isOver() ? 0 : sum;
    }

    long divisor() {
        return isOver() ? 1 : tenTo(periods - told());
    }

    int states() {
        if (isOver()) {
            return 1;
        }
        Set<String> unlike = new HashSet<>();
        for (List<Boolean> row : rowsLeft()) {
            if (row.size() == periods) {
                Outcome end = outcome(row);
                unlike.add(end.price[0] + " " + end.price[1] + " " + end.missed + " " + end.isKnocked);
            }
        }
        return unlike.size();
    }

    int least() {
        int least = Integer.MAX_VALUE;
        for (List<Boolean> row : rowsLeft()) {
            least = Math.min(least, outcome(row).paid - paid());
        }
        return least;
    }

    int most() {
        int most = 0;
        for (List<Boolean> row : rowsLeft()) {
            most = Math.max(most, outcome(row).paid - paid());
        }
        return most;
    }

    long endsIn(int period) {
        demand(1, period, periods);
        long sum = 0;
        for (List<Boolean> row : rowsLeft()) {
            if (row.size() == period && period > told()) {
                sum += weight(row);
            }
        }
        return sum;
    }

    long knocks() {
        long sum = 0;
        for (List<Boolean> row : rowsLeft()) {
            if (outcome(row).isKnocked) {
                sum += isOver() ? 1 : weight(row);
            }
        }
        return sum;
    }

    /** The moves told with all that can follow, each row until the note is over. */
    private List<List<Boolean>> rowsLeft() {
        List<List<Boolean>> ended = new ArrayList<>();
        follow(new ArrayList<>(moves), ended);
        return ended;
    }

    private void follow(List<Boolean> row, List<List<Boolean>> ended) {
        if (outcome(row).isOver) {
            ended.add(row);
            return;
        }
        for (boolean isUp : new boolean[] {true, false}) {
            List<Boolean> longer = new ArrayList<>(row);
            longer.add(isUp);
            follow(longer, ended);
        }
    }

    /** The product of the weights behind the moves told, with 10 for each period behind the end. */
    private long weight(List<Boolean> row) {
        long product = tenTo(periods - row.size());
        for (int i = told(); i < row.size(); i++) {
            product *= row.get(i) ? chance : 10 - chance;
        }
        return product;
    }

    private Outcome outcome(List<Boolean> row) {
        Outcome out = new Outcome();
        out.price[0] = first[0];
        out.price[1] = first[1];
        out.worst = worstOf(out);
        for (int period = 1; period <= row.size(); period++) {
            boolean isUp = row.get(period - 1);
            movePrice(out, 0, isUp);
            movePrice(out, 1, isAgainst ? !isUp : isUp);
            out.worst = worstOf(out);
            payPeriod(out, period == periods);
        }
        return out;
    }

    private void movePrice(Outcome out, int asset, boolean isRising) {
        out.price[asset] += isRising ? rise[asset] : -fall[asset];
        if (out.price[asset] < 1) {
            out.price[asset] = 1;
        }
    }

    private int worstOf(Outcome out) {
        int level0 = out.price[0] * 100 / first[0];
        int level1 = out.price[1] * 100 / first[1];
        return level0 < level1 ? level0 : level1;
    }

    private void payPeriod(Outcome out, boolean isLast) {
        out.paidLast = 0;
        if (out.worst < barrier) {
            if (!isAtEnd) {
                out.isKnocked = true;
            } else if (isLast) {
                out.isKnocked = true;
            }
        }
        if (out.worst >= couponLevel) {
            out.paidLast += coupon;
            if (remembers) {
                out.paidLast += out.missed * coupon;
            }
            out.missed = 0;
        } else {
            out.missed += 1;
        }
        if (isLast) {
            out.isOver = true;
            out.paidLast += out.isKnocked && out.worst < 100 ? 10 * out.worst : 1000;
        } else if (out.worst >= callLevel) {
            out.isOver = true;
            out.paidLast += 1000;
        }
        out.paid += out.paidLast;
    }

    private static long tenTo(int exponent) {
        return exponent == 0 ? 1 : 10 * tenTo(exponent - 1);
    }

    private static void demand(int from, int value, int to) {
        if (value < from || value > to) {
            throw new IllegalArgumentException();
        }
    }
}
