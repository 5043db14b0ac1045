/**
 * What is refused, promise by promise: the first values that are refused on both sides, far ones,
 * and calls that the note's standing forbids. Each is made on notes that stand in all ways, throws
 * what its promise names and changes nothing. The last values that are let in count as told.
 */
public final class RefusalsTest {
    private static final Class<IllegalArgumentException> ARGUMENT = IllegalArgumentException.class;
    private static final Class<IndexOutOfBoundsException> INDEX = IndexOutOfBoundsException.class;
    private static final Class<IllegalStateException> STATE = IllegalStateException.class;
    private static final int[] WRONG_ASSETS = {-1, 2, Integer.MIN_VALUE, Integer.MAX_VALUE};

    private static final Check CHECK = new Check("RefusalsTest");

    /** Some call on a book. */
    private interface Call {
        void on(Barrierbook book);
    }

    public static void main(String[] args) {
        assetRefused();
        firstRefused();
        riseRefused();
        fallRefused();
        assetRefusedAheadOfValues();
        chanceRefused();
        periodsRefused();
        barrierRefused();
        couponLevelRefused();
        callLevelRefused();
        couponRefused();
        allOfTheNoteRefused();
        tellRefused();
        takeBackRefused();
        priceRefused();
        endsInRefused();

        assetLetIn();
        firstLetIn();
        stepsLetIn();
        chanceLetIn();
        periodsLetIn();
        barrierLetIn();
        couponLevelLetIn();
        callLevelLetIn();
        couponLetIn();
        tellLetIn();
        takeBackLetIn();
        endsInLetIn();
        CHECK.finish();
    }

    // ---- how a book can stand

    /** The ways that a book can stand; each call makes a new one. */
    private enum Way {
        NEW, SET, ONE_TOLD, ALL_BUT_ONE_TOLD, ALL_TOLD, CALLED, TAKEN_BACK, ONE_PERIOD, ONE_PERIOD_TOLD;

        Barrierbook book() {
            Barrierbook book = new Barrierbook();
            if (this == NEW) {
                return book;
            }
            set(book, this == ONE_PERIOD || this == ONE_PERIOD_TOLD ? 1 : 5);
            switch (this) {
                case ONE_TOLD -> tell(book, false);
                case ALL_BUT_ONE_TOLD -> tell(book, false, true, false, false);
                case ALL_TOLD -> tell(book, false, true, false, false, true);
                case CALLED -> tell(book, false, true, true);
                case TAKEN_BACK -> tellAndTakeBack(book);
                case ONE_PERIOD_TOLD -> tell(book, false);
                default -> { }
            }
            return book;
        }

        boolean isOver() {
            return this == ALL_TOLD || this == CALLED || this == ONE_PERIOD_TOLD;
        }

        boolean isUntold() {
            return this == NEW || this == SET || this == TAKEN_BACK || this == ONE_PERIOD;
        }

        int periods() {
            return this == NEW ? 4 : this == ONE_PERIOD || this == ONE_PERIOD_TOLD ? 1 : 5;
        }

        private static void set(Barrierbook book, int periods) {
            book.setAsset(0, 200, 30, 35);
            book.setAsset(1, 150, 20, 15);
            book.setMoves(false, 3);
            book.setNote(periods, 85, 95, 110, 40);
            book.setKind(false, true);
        }

        private static void tell(Barrierbook book, boolean... moves) {
            for (boolean isUp : moves) {
                book.tell(isUp);
            }
        }

        private static void tellAndTakeBack(Barrierbook book) {
            tell(book, false, false);
            book.takeBack();
            book.takeBack();
        }
    }

    private static final Way[] WAYS = Way.values();

    /** The ways stand as their names say. */
    private static void dueWay(Way way, Barrierbook book) {
        CHECK.due(way + ": isOver()", book.isOver(), way.isOver());
        CHECK.due(way + ": no move told", book.told() == 0, way.isUntold());
    }

    private static void refused(String call, Class<? extends RuntimeException> want, Call made) {
        for (Way way : WAYS) {
            refused(way, call, want, made);
        }
    }

    private static void refused(Way way, String call, Class<? extends RuntimeException> want,
            Call made) {
        Barrierbook book = way.book();
        dueWay(way, book);
        CHECK.dueThrow(way + ": " + call, want, () -> made.on(book));
        CHECK.due(way + ": behind " + call, aftermath(book), aftermath(way.book()));
    }

    /** All that a book answers as it stands, behind each move taken back, and behind new ones. */
    private static String aftermath(Barrierbook book) {
        StringBuilder text = new StringBuilder(Answers.of(book));
        while (book.told() > 0) {
            text.append(" back ").append(book.takeBack()).append(Answers.of(book));
        }
        text.append(" up ").append(book.tell(true)).append(Answers.of(book));
        book.setKind(true, false);
        text.append(" anew ").append(Answers.of(book));
        text.append(" down ").append(book.tell(false)).append(Answers.of(book));
        return text.toString();
    }

    // ---- promise 2: setAsset

    private static void assetRefused() {
        for (int asset : WRONG_ASSETS) {
            refused("setAsset(" + asset + ")", INDEX, book -> book.setAsset(asset, 300, 7, 11));
        }
    }

    private static void firstRefused() {
        for (int first : outside(100, 1000)) {
            String value = "first " + first;
            refused(value + " of 0", ARGUMENT, book -> book.setAsset(0, first, 7, 11));
            refused(value + " of 1", ARGUMENT, book -> book.setAsset(1, first, 7, 11));
        }
    }

    private static void riseRefused() {
        for (int rise : outside(0, 200)) {
            String value = "rise " + rise;
            refused(value + " of 0", ARGUMENT, book -> book.setAsset(0, 300, rise, 11));
            refused(value + " of 1", ARGUMENT, book -> book.setAsset(1, 300, rise, 11));
        }
    }

    private static void fallRefused() {
        for (int fall : outside(0, 200)) {
            String value = "fall " + fall;
            refused(value + " of 0", ARGUMENT, book -> book.setAsset(0, 300, 7, fall));
            refused(value + " of 1", ARGUMENT, book -> book.setAsset(1, 300, 7, fall));
        }
    }

    /** The throws clause names the asset's exception first. */
    private static void assetRefusedAheadOfValues() {
        for (int asset : WRONG_ASSETS) {
            String value = "setAsset(" + asset + "), wrong ";
            refused(value + "first", INDEX, book -> book.setAsset(asset, 99, 7, 11));
            refused(value + "rise", INDEX, book -> book.setAsset(asset, 300, 201, 11));
            refused(value + "fall", INDEX, book -> book.setAsset(asset, 300, 7, -1));
            refused(value + "values", INDEX, book -> book.setAsset(asset, 1001, -1, 201));
        }
    }

    // ---- promise 3: setMoves

    private static void chanceRefused() {
        for (int chance : outside(1, 9)) {
            String value = "chance " + chance;
            refused(value + ", against", ARGUMENT, book -> book.setMoves(true, chance));
            refused(value + ", not against", ARGUMENT, book -> book.setMoves(false, chance));
        }
    }

    // ---- promise 4: setNote

    private static void periodsRefused() {
        for (int periods : outside(1, 8)) {
            refused("periods " + periods, ARGUMENT, book -> book.setNote(periods, 90, 99, 105, 70));
        }
    }

    private static void barrierRefused() {
        for (int barrier : outside(0, 100)) {
            refused("barrier " + barrier, ARGUMENT, book -> book.setNote(3, barrier, 99, 105, 70));
        }
    }

    private static void couponLevelRefused() {
        for (int level : outside(0, 150)) {
            refused("coupon level " + level, ARGUMENT, book -> book.setNote(3, 90, level, 105, 70));
        }
    }

    private static void callLevelRefused() {
        for (int level : outside(0, 200)) {
            refused("call level " + level, ARGUMENT, book -> book.setNote(3, 90, 99, level, 70));
        }
    }

    private static void couponRefused() {
        for (int coupon : outside(0, 500)) {
            refused("coupon " + coupon, ARGUMENT, book -> book.setNote(3, 90, 99, 105, coupon));
        }
    }

    private static void allOfTheNoteRefused() {
        refused("all too small", ARGUMENT, book -> book.setNote(0, -1, -1, -1, -1));
        refused("all too large", ARGUMENT, book -> book.setNote(9, 101, 151, 201, 501));
    }

    // ---- promises 6, 7, 9 and 21

    private static void tellRefused() {
        for (Way way : WAYS) {
            if (way.isOver()) {
                refused(way, "tell(up)", STATE, book -> book.tell(true));
                refused(way, "tell(down)", STATE, book -> book.tell(false));
            }
        }
    }

    private static void takeBackRefused() {
        for (Way way : WAYS) {
            if (way.isUntold()) {
                refused(way, "takeBack()", STATE, Barrierbook::takeBack);
            }
        }
    }

    private static void priceRefused() {
        for (int asset : WRONG_ASSETS) {
            refused("price(" + asset + ")", INDEX, book -> book.price(asset));
        }
    }

    private static void endsInRefused() {
        for (Way way : WAYS) {
            for (int period : outside(1, way.periods())) {
                refused(way, "endsIn(" + period + ")", ARGUMENT, book -> book.endsIn(period));
            }
        }
    }

    // ---- the last values that are let in

    private static void assetLetIn() {
        Barrierbook book = new Barrierbook();
        book.setAsset(0, 300, 7, 11);
        book.setAsset(1, 200, 13, 17);
        CHECK.due("asset 0 let in", book.price(0), 300);
        CHECK.due("asset 1 let in", book.price(1), 200);
    }

    private static void firstLetIn() {
        for (int asset = 0; asset <= 1; asset++) {
            for (int first : new int[] {100, 101, 999, 1000}) {
                Barrierbook book = new Barrierbook();
                book.setAsset(asset, first, 50, 40);
                CHECK.due("first " + first + " of " + asset, book.price(asset), first);
                CHECK.due("first " + first + " of " + asset + ", the other", book.price(1 - asset), 500);
                book.tell(false);
                CHECK.due("first " + first + " of " + asset + ", down", book.price(asset), first - 40);
                CHECK.due("first " + first + ": worst()", book.worst(),
                        Math.min(92, (first - 40) * 100 / first));
            }
        }
    }

    private static void stepsLetIn() {
        for (int asset = 0; asset <= 1; asset++) {
            for (int step : new int[] {0, 1, 199, 200}) {
                Barrierbook book = new Barrierbook();
                book.setAsset(asset, 500, step, 33);
                book.tell(true);
                CHECK.due("rise " + step + " of " + asset, book.price(asset), 500 + step);
                CHECK.due("rise " + step + " of " + asset + ", the other", book.price(1 - asset), 550);
                book.setAsset(asset, 500, 33, step);
                book.tell(false);
                CHECK.due("fall " + step + " of " + asset, book.price(asset), 500 - step);
                CHECK.due("fall " + step + " of " + asset + ", the other", book.price(1 - asset), 460);
            }
        }
    }

    /** In the note as it is at first a move up in the first period ends it. */
    private static void chanceLetIn() {
        for (int chance : new int[] {1, 2, 8, 9}) {
            Barrierbook book = new Barrierbook();
            book.setMoves(false, chance);
            CHECK.due("chance " + chance, book.endsIn(1), chance * 1000);
            CHECK.due("chance " + chance + ", down", book.endsIn(2), (10 - chance) * chance * 100);
            CHECK.due("chance " + chance + ": divisor()", book.divisor(), 10000);
        }
    }

    private static void periodsLetIn() {
        for (int periods : new int[] {1, 2, 7, 8}) {
            Barrierbook book = new Barrierbook();
            book.setNote(periods, 0, 150, 200, 0);
            for (int i = 1; i <= periods; i++) {
                CHECK.due("periods " + periods + ", ahead of " + i, book.isOver(), false);
                CHECK.due("periods " + periods + ": tell " + i, book.tell(false), i < periods ? 0 : 1000);
            }
            CHECK.due("periods " + periods + ", all told", book.isOver(), true);
            CHECK.due("periods " + periods + ": told()", book.told(), periods);
        }
    }

    private static void barrierLetIn() {
        for (int barrier : new int[] {0, 1, 99, 100}) {
            Barrierbook book = new Barrierbook();
            book.setNote(2, barrier, 150, 200, 0);
            Levels.tellTo(book, barrier);
            CHECK.due("barrier " + barrier + ", at it", book.isKnocked(), false);
            if (barrier > 0) {
                Levels.tellTo(book, barrier - 1);
                CHECK.due("barrier " + barrier + ", below it", book.isKnocked(), true);
            }
        }
    }

    private static void couponLevelLetIn() {
        for (int level : new int[] {0, 1, 149, 150}) {
            Barrierbook book = new Barrierbook();
            book.setNote(2, 0, level, 200, 30);
            CHECK.due("coupon level " + level + ", at it", Levels.tellTo(book, level), 30);
            CHECK.due("coupon level " + level + ", at it: missed()", book.missed(), 0);
            if (level > 0) {
                CHECK.due("coupon level " + level + ", below it", Levels.tellTo(book, level - 1), 0);
                CHECK.due("coupon level " + level + ", below it: missed()", book.missed(), 1);
            }
        }
    }

    private static void callLevelLetIn() {
        for (int level : new int[] {0, 1, 199, 200}) {
            Barrierbook book = new Barrierbook();
            book.setNote(2, 0, 150, level, 0);
            CHECK.due("call level " + level + ", at it", Levels.tellTo(book, level), 1000);
            CHECK.due("call level " + level + ", at it: isOver()", book.isOver(), true);
            if (level > 0) {
                CHECK.due("call level " + level + ", below it", Levels.tellTo(book, level - 1), 0);
                CHECK.due("call level " + level + ", below it: isOver()", book.isOver(), false);
            }
        }
    }

    private static void couponLetIn() {
        for (int coupon : new int[] {0, 1, 499, 500}) {
            Barrierbook book = new Barrierbook();
            book.setNote(2, 0, 0, 200, coupon);
            CHECK.due("coupon " + coupon, book.tell(false), coupon);
            CHECK.due("coupon " + coupon + ", the last", book.tell(false), coupon + 1000);
        }
    }

    /** What is refused to a note that is over is let in as soon as its end is taken back. */
    private static void tellLetIn() {
        for (Way way : WAYS) {
            if (way.isOver()) {
                Barrierbook book = way.book();
                String stood = Answers.of(book);
                int paid = book.takeBack();
                CHECK.due(way + ", its end taken back: isOver()", book.isOver(), false);
                CHECK.due(way + ", its end told again", book.tell(way != Way.ONE_PERIOD_TOLD), paid);
                CHECK.due(way + ", as it stood", Answers.of(book), stood);
            }
        }
    }

    private static void takeBackLetIn() {
        for (Way way : WAYS) {
            Barrierbook book = way.book();
            int told = book.told();
            for (int i = told; i > 0; i--) {
                CHECK.dueNoThrow(way + ": takeBack() of " + i, book::takeBack);
                CHECK.due(way + ": told() behind it", book.told(), i - 1);
            }
            CHECK.dueThrow(way + ": takeBack() of none", STATE, book::takeBack);
        }
    }

    private static void endsInLetIn() {
        for (Way way : WAYS) {
            Barrierbook book = way.book();
            long sum = 0;
            for (int period = 1; period <= way.periods(); period++) {
                sum += book.endsIn(period);
            }
            CHECK.due(way + ": endsIn, all in all", sum, way.isOver() ? 0 : book.divisor());
        }
    }

    // ---- helpers

    /** The first values beside a range on both sides, and the farthest. */
    private static int[] outside(int from, int to) {
        return new int[] {from - 1, to + 1, Integer.MIN_VALUE, Integer.MAX_VALUE};
    }
}
