/** The document's promises 1 to 22, each with ordinary inputs, its edges and wrong inputs. */
public final class PromisesTest {
    private static final Class<IllegalArgumentException> ARGUMENT = IllegalArgumentException.class;
    private static final Class<IndexOutOfBoundsException> INDEX = IndexOutOfBoundsException.class;
    private static final Class<IllegalStateException> STATE = IllegalStateException.class;
    private static final int[] FAR = {Integer.MIN_VALUE, Integer.MAX_VALUE};

    private static final Check CHECK = new Check("PromisesTest");

    public static void main(String[] args) {
        newObject();
        newObjectsLevels();
        setAsset();
        setAssetWrong();
        setMoves();
        setNote();
        setNoteWrong();
        setKind();
        settingForgetsMoves();
        throwingChangesNothing();
        tell();
        tellInTheLastPeriod();
        tellWithRememberedCoupons();
        takeBack();
        told();
        price();
        worst();
        isKnocked();
        missed();
        paid();
        isOver();
        worth();
        worthIsWide();
        divisor();
        states();
        leastAndMost();
        endsIn();
        knocks();
        askingChangesNothing();
        eachQuestionAskedFirst();
        CHECK.finish();
    }

    // ---- promise 1

    private static void newObject() {
        Barrierbook book = new Barrierbook();
        dueBegin("new", book);
        due("new: price(0)", book.price(0), 500);
        due("new: price(1)", book.price(1), 500);
        due("new: divisor()", book.divisor(), 10000);
        due("new: endsIn(1)", book.endsIn(1), 5000);
        due("new: worth()", book.worth(), 10906250);
        dueThrow("new: endsIn(5)", ARGUMENT, () -> book.endsIn(5));
        due("new: tell(up)", book.tell(true), 1050);
        due("new: price(0) behind up", book.price(0), 550);
        due("new: price(1) behind up", book.price(1), 550);

        Barrierbook down = new Barrierbook();
        due("new: tell(down)", down.tell(false), 50);
        due("new: price(0) behind down", down.price(0), 460);
        due("new: price(1) behind down", down.price(1), 460);
    }

    /** The barrier 60, the coupon level 80 and the call level 100, each met and just missed. */
    private static void newObjectsLevels() {
        Barrierbook book = new Barrierbook();
        due("level 60: tell", fallBy(book, 40), 0);
        due("level 60: isKnocked()", book.isKnocked(), false);
        due("level 59: tell", fallBy(book, 41), 0);
        due("level 59: isKnocked()", book.isKnocked(), true);
        due("level 80: tell", fallBy(book, 20), 50);
        due("level 79: tell", fallBy(book, 21), 0);
        book.setAsset(1, 500, 0, 0);
        due("level 100: tell", fallBy(book, 0), 1050);
        due("level 99: tell", fallBy(book, 1), 50);
        fallBy(book, 25);
        book.tell(false);
        due("two periods missed: missed()", book.missed(), 2);
        book.setAsset(0, 100, 20, 25);
        book.tell(false);
        due("not remembered at first: tell", book.tell(true), 50);
    }

    private static int fallBy(Barrierbook book, int fall) {
        book.setAsset(0, 100, 0, fall);
        return book.tell(false);
    }

    // ---- promise 2

    private static void setAsset() {
        Barrierbook book = new Barrierbook();
        book.setAsset(0, 300, 7, 11);
        due("setAsset(0): price(0)", book.price(0), 300);
        due("setAsset(0): price(1)", book.price(1), 500);
        book.setAsset(1, 200, 13, 17);
        due("setAsset(1): price(0)", book.price(0), 300);
        due("setAsset(1): price(1)", book.price(1), 200);
        book.tell(false);
        due("setAsset: price(0) behind down", book.price(0), 289);
        due("setAsset: price(1) behind down", book.price(1), 183);
        book.tell(true);
        due("setAsset: price(0) behind up", book.price(0), 296);
        due("setAsset: price(1) behind up", book.price(1), 196);

        book.setAsset(0, 100, 0, 0);
        book.tell(true);
        due("setAsset, least of all: price(0)", book.price(0), 100);
        book.setNote(2, 0, 0, 200, 0);
        book.setAsset(0, 1000, 200, 200);
        book.tell(true);
        due("setAsset, most of all: price(0) behind up", book.price(0), 1200);
        book.tell(false);
        due("setAsset, most of all: price(0) behind down", book.price(0), 1000);
    }

    private static void setAssetWrong() {
        Barrierbook book = new Barrierbook();
        book.tell(false);
        for (int asset : new int[] {-1, 2, FAR[0], FAR[1]}) {
            dueThrow("setAsset(" + asset + ")", INDEX, () -> book.setAsset(asset, 500, 50, 40));
            dueThrow("setAsset(" + asset + ", 0)", INDEX, () -> book.setAsset(asset, 0, -1, -1));
        }
        for (int first : new int[] {99, 1001, 0, -1, FAR[0], FAR[1]}) {
            dueThrow("first " + first, ARGUMENT, () -> book.setAsset(0, first, 50, 40));
            dueThrow("first " + first, ARGUMENT, () -> book.setAsset(1, first, 50, 40));
        }
        for (int step : new int[] {-1, 201, FAR[0], FAR[1]}) {
            dueThrow("rise " + step, ARGUMENT, () -> book.setAsset(0, 500, step, 40));
            dueThrow("fall " + step, ARGUMENT, () -> book.setAsset(1, 500, 50, step));
        }
        due("setAsset thrown: told()", book.told(), 1);
        due("setAsset thrown: price(0)", book.price(0), 460);
        due("setAsset thrown: tell(down)", book.tell(false), 50);
        due("setAsset thrown: price(0) behind down", book.price(0), 420);
        due("setAsset thrown: price(1) behind down", book.price(1), 420);
    }

    // ---- promise 3

    private static void setMoves() {
        Barrierbook book = new Barrierbook();
        book.setMoves(true, 3);
        due("against: tell(down)", book.tell(false), 50);
        due("against: price(0)", book.price(0), 460);
        due("against: price(1)", book.price(1), 550);
        book.tell(true);
        due("against: price(0) behind up", book.price(0), 510);
        due("against: price(1) behind up", book.price(1), 510);
        book.setMoves(false, 3);
        due("chance 3: endsIn(1)", book.endsIn(1), 3000);
        book.tell(false);
        due("with: price(1)", book.price(1), 460);
        book.setMoves(false, 1);
        due("chance 1: endsIn(1)", book.endsIn(1), 1000);
        book.setMoves(false, 9);
        due("chance 9: endsIn(1)", book.endsIn(1), 9000);
        book.tell(false);
        for (int chance : new int[] {0, 10, -1, FAR[0], FAR[1]}) {
            dueThrow("setMoves(" + chance + ")", ARGUMENT, () -> book.setMoves(true, chance));
        }
        due("setMoves thrown: told()", book.told(), 1);
        due("setMoves thrown: endsIn(2)", book.endsIn(2), 900);
        book.tell(false);
        due("setMoves thrown: price(1)", book.price(1), 420);
    }

    // ---- promise 4

    private static void setNote() {
        Barrierbook book = new Barrierbook();
        book.setNote(2, 93, 92, 110, 70);
        due("setNote: divisor()", book.divisor(), 100);
        due("setNote: tell(down) at the coupon level", book.tell(false), 70);
        due("setNote: isKnocked() below the barrier", book.isKnocked(), true);
        due("setNote: tell(up)", book.tell(true), 1070);
        book.setNote(2, 92, 93, 110, 70);
        due("setNote: tell(down) below the coupon level", book.tell(false), 0);
        due("setNote: isKnocked() at the barrier", book.isKnocked(), false);
        book.setNote(2, 0, 0, 110, 70);
        due("setNote: tell(up) at the call level", book.tell(true), 1070);
        book.setNote(2, 0, 0, 111, 70);
        due("setNote: tell(up) below the call level", book.tell(true), 70);

        book.setNote(1, 0, 0, 0, 0);
        due("setNote, least of all: worth()", book.worth(), 10000);
        due("setNote, least of all: divisor()", book.divisor(), 10);
        book.setNote(8, 100, 150, 200, 500);
        due("setNote, most of all: divisor()", book.divisor(), 100000000);
        due("setNote, most of all: tell(down)", book.tell(false), 0);
        due("setNote, most of all: isKnocked()", book.isKnocked(), true);
        due("setNote, most of all: missed()", book.missed(), 1);
    }

    private static void setNoteWrong() {
        Barrierbook book = new Barrierbook();
        book.tell(false);
        for (int far : FAR) {
            dueThrow("periods " + far, ARGUMENT, () -> book.setNote(far, 60, 80, 100, 50));
            dueThrow("barrier " + far, ARGUMENT, () -> book.setNote(4, far, 80, 100, 50));
            dueThrow("couponLevel " + far, ARGUMENT, () -> book.setNote(4, 60, far, 100, 50));
            dueThrow("callLevel " + far, ARGUMENT, () -> book.setNote(4, 60, 80, far, 50));
            dueThrow("coupon " + far, ARGUMENT, () -> book.setNote(4, 60, 80, 100, far));
        }
        dueThrow("periods 0", ARGUMENT, () -> book.setNote(0, 60, 80, 100, 50));
        dueThrow("periods 9", ARGUMENT, () -> book.setNote(9, 60, 80, 100, 50));
        dueThrow("barrier -1", ARGUMENT, () -> book.setNote(3, -1, 80, 100, 50));
        dueThrow("barrier 101", ARGUMENT, () -> book.setNote(3, 101, 80, 100, 50));
        dueThrow("couponLevel -1", ARGUMENT, () -> book.setNote(3, 60, -1, 100, 50));
        dueThrow("couponLevel 151", ARGUMENT, () -> book.setNote(3, 60, 151, 100, 50));
        dueThrow("callLevel -1", ARGUMENT, () -> book.setNote(3, 60, 80, -1, 50));
        dueThrow("callLevel 201", ARGUMENT, () -> book.setNote(3, 60, 80, 201, 50));
        dueThrow("coupon -1", ARGUMENT, () -> book.setNote(3, 60, 80, 100, -1));
        dueThrow("coupon 501", ARGUMENT, () -> book.setNote(3, 60, 80, 100, 501));
        due("setNote thrown: told()", book.told(), 1);
        due("setNote thrown: divisor()", book.divisor(), 1000);
        due("setNote thrown: worth()", book.worth(), 1081250);
    }

    // ---- promise 5

    private static void setKind() {
        Barrierbook book = new Barrierbook();
        book.setNote(2, 70, 80, 200, 10);
        // down, up: the levels 50 and 95
        book.setAsset(0, 100, 45, 50);
        due("neither: paid()", paidOf(book, false, true), 10 + 950);
        due("neither: isKnocked()", book.isKnocked(), true);
        book.setKind(true, false);
        due("end alone asked: paid()", paidOf(book, false, true), 10 + 1000);
        due("end alone asked, above: isKnocked()", book.isKnocked(), false);
        due("end alone asked: paid()", paidOf(book, false), 0);
        due("end alone asked, ahead of it: isKnocked()", book.isKnocked(), false);
        due("end alone asked: tell(down)", book.tell(false), 10);
        due("end alone asked, below: isKnocked()", book.isKnocked(), true);
        book.setKind(false, true);
        due("remembered: paid()", paidOf(book, false, true), 20 + 950);
        book.setKind(true, true);
        due("both: paid()", paidOf(book, false, true), 20 + 1000);
        book.setKind(false, false);
        due("neither again: paid()", paidOf(book, false, true), 10 + 950);
    }

    /** What is paid behind these moves; the note begins anew ahead of them and stands there. */
    private static int paidOf(Barrierbook book, boolean... moves) {
        while (book.told() > 0) {
            book.takeBack();
        }
        for (boolean isUp : moves) {
            book.tell(isUp);
        }
        return book.paid();
    }

    // ---- promises 2 to 5

    private static void settingForgetsMoves() {
        Barrierbook book = new Barrierbook();
        stand(book);
        book.setAsset(0, 100, 60, 50);
        dueBegin("setAsset(0)", book);
        stand(book);
        book.setAsset(1, 500, 50, 40);
        dueBegin("setAsset(1)", book);
        stand(book);
        book.setMoves(false, 5);
        dueBegin("setMoves", book);
        stand(book);
        book.setNote(2, 70, 80, 200, 10);
        dueBegin("setNote", book);
        stand(book);
        book.setKind(false, false);
        dueBegin("setKind", book);
        due("setKind: price(0)", book.price(0), 100);
        due("setKind: price(1)", book.price(1), 500);
    }

    /** Lets the note be over and knocked, with a coupon paid and a period missed. */
    private static void stand(Barrierbook book) {
        book.setNote(2, 70, 80, 200, 10);
        book.setAsset(0, 100, 0, 50);
        due("stand: tell(up)", book.tell(true), 10);
        due("stand: tell(down)", book.tell(false), 500);
        due("stand: isOver()", book.isOver(), true);
        due("stand: isKnocked()", book.isKnocked(), true);
        due("stand: missed()", book.missed(), 1);
        due("stand: paid()", book.paid(), 510);
    }

    private static void dueBegin(String call, Barrierbook book) {
        due(call + ": told()", book.told(), 0);
        due(call + ": worst()", book.worst(), 100);
        due(call + ": isKnocked()", book.isKnocked(), false);
        due(call + ": missed()", book.missed(), 0);
        due(call + ": paid()", book.paid(), 0);
        due(call + ": isOver()", book.isOver(), false);
        dueThrow(call + ": takeBack()", STATE, book::takeBack);
    }

    private static void throwingChangesNothing() {
        Barrierbook book = new Barrierbook();
        stand(book);
        dueThrow("tell, over", STATE, () -> book.tell(true));
        dueThrow("setAsset, wrong", INDEX, () -> book.setAsset(2, 500, 50, 40));
        dueThrow("setMoves, wrong", ARGUMENT, () -> book.setMoves(true, 0));
        dueThrow("setNote, wrong", ARGUMENT, () -> book.setNote(1, 0, 0, 0, -1));
        dueThrow("price, wrong", INDEX, () -> book.price(2));
        dueThrow("endsIn, wrong", ARGUMENT, () -> book.endsIn(3));
        due("thrown: told()", book.told(), 2);
        due("thrown: price(0)", book.price(0), 50);
        due("thrown: missed()", book.missed(), 1);
        due("thrown: paid()", book.paid(), 510);
        due("thrown: takeBack()", book.takeBack(), 500);
        due("thrown: tell(up)", book.tell(true), 1010);
    }

    // ---- promise 6

    private static void tell() {
        Barrierbook book = new Barrierbook();
        due("tell(down) 1", book.tell(false), 50);
        due("tell(down) 2", book.tell(false), 50);
        due("tell(down) 3, below the coupon level", book.tell(false), 0);
        due("tell(down) 4, the last", book.tell(false), 1000);
        dueThrow("tell behind the last", STATE, () -> book.tell(false));
        Barrierbook called = new Barrierbook();
        due("tell(up), called", called.tell(true), 1050);
        dueThrow("tell behind the call", STATE, () -> called.tell(true));
        called.setNote(4, 60, 150, 110, 50);
        due("tell(up), called without a coupon", called.tell(true), 1000);
    }

    private static void tellInTheLastPeriod() {
        Barrierbook book = new Barrierbook();
        book.setNote(1, 93, 0, 0, 7);
        due("last, knocked, worst 92", book.tell(false), 7 + 920);
        book.setNote(1, 92, 0, 0, 7);
        due("last, not knocked, worst 92", book.tell(false), 7 + 1000);
        book.setNote(1, 100, 0, 0, 7);
        due("last, worst 110", book.tell(true), 7 + 1000);
        book.setAsset(0, 100, 10, 10);
        book.setAsset(1, 100, 10, 10);
        book.setNote(2, 100, 0, 200, 0);
        due("knocked at 90", book.tell(false), 0);
        due("last, knocked, worst 100", book.tell(true), 1000);
        book.setAsset(0, 100, 9, 10);
        book.tell(false);
        due("last, knocked, worst 99", book.tell(true), 990);
        book.setKind(true, false);
        book.setNote(1, 100, 0, 0, 0);
        due("last, asked at the end alone", book.tell(false), 900);
    }

    private static void tellWithRememberedCoupons() {
        Barrierbook book = new Barrierbook();
        book.setKind(false, true);
        book.setAsset(0, 100, 30, 20);
        book.setNote(8, 0, 100, 200, 30);
        due("missed 1", book.tell(false), 0);
        due("missed 2", book.tell(false), 0);
        due("missed 3", book.tell(true), 0);
        due("remembered: 1 and 3", book.tell(true), 120);
        due("none missed any more", book.missed(), 0);
        due("remembered: 1", book.tell(true), 30);
    }

    // ---- promise 7

    private static void takeBack() {
        Barrierbook book = new Barrierbook();
        dueThrow("takeBack, none told", STATE, book::takeBack);
        book.setAsset(0, 100, 60, 50);
        book.setNote(4, 70, 80, 120, 10);
        due("tell 1", book.tell(false), 0);
        due("tell 2", book.tell(true), 10);
        due("tell 3", book.tell(false), 0);
        due("tell 4", book.tell(false), 100);
        due("takeBack 4", book.takeBack(), 100);
        due("takeBack 4: price(0)", book.price(0), 60);
        due("takeBack 4: price(1)", book.price(1), 470);
        due("takeBack 4: missed()", book.missed(), 1);
        due("takeBack 4: isOver()", book.isOver(), false);
        due("takeBack 3", book.takeBack(), 0);
        due("takeBack 3: missed()", book.missed(), 0);
        due("takeBack 3: paid()", book.paid(), 10);
        due("takeBack 2", book.takeBack(), 10);
        due("takeBack 2: isKnocked()", book.isKnocked(), true);
        due("takeBack 2: missed()", book.missed(), 1);
        due("takeBack 1", book.takeBack(), 0);
        dueBegin("takeBack 1", book);

        book.setNote(4, 0, 0, 100, 10);
        book.setAsset(0, 500, 50, 40);
        due("takeBack of a call: tell(up)", book.tell(true), 1010);
        due("takeBack of a call", book.takeBack(), 1010);
        due("takeBack of a call: isOver()", book.isOver(), false);
        due("another move behind it", book.tell(false), 10);
        due("another move behind it: price(0)", book.price(0), 460);
        due("and one more", book.tell(true), 1010);
        due("and back", book.takeBack(), 1010);
        due("and back: price(0)", book.price(0), 460);
    }

    // ---- promises 8 to 14

    private static void told() {
        Barrierbook book = new Barrierbook();
        for (int i = 1; i <= 4; i++) {
            book.tell(false);
            due("told()", book.told(), i);
        }
        book.takeBack();
        due("told() behind takeBack", book.told(), 3);
    }

    private static void price() {
        Barrierbook book = new Barrierbook();
        for (int asset : new int[] {-1, 2, FAR[0], FAR[1]}) {
            dueThrow("price(" + asset + ")", INDEX, () -> book.price(asset));
        }
        book.setAsset(0, 100, 5, 99);
        book.setAsset(1, 100, 5, 100);
        book.tell(false);
        due("price(0), to 1", book.price(0), 1);
        due("price(1), not below 1", book.price(1), 1);
        book.tell(false);
        due("price(0), still 1", book.price(0), 1);
        book.tell(true);
        due("price(0), up from 1", book.price(0), 6);
    }

    private static void worst() {
        Barrierbook book = new Barrierbook();
        book.setAsset(0, 300, 0, 1);
        book.setAsset(1, 1000, 0, 19);
        book.setNote(8, 0, 0, 200, 0);
        book.tell(false);
        due("worst(), 981 of 1000", book.worst(), 98);
        book.setAsset(1, 1000, 0, 0);
        book.tell(false);
        due("worst(), 299 of 300", book.worst(), 99);
        book.tell(false);
        book.tell(false);
        due("worst(), 297 of 300", book.worst(), 99);
        book.tell(false);
        due("worst(), 296 of 300", book.worst(), 98);
        book.setAsset(0, 100, 200, 0);
        book.setAsset(1, 100, 199, 0);
        book.tell(true);
        due("worst(), above the first prices", book.worst(), 299);
        due("worst(): over", book.isOver(), true);
    }

    private static void isKnocked() {
        Barrierbook book = new Barrierbook();
        book.setAsset(0, 100, 60, 50);
        due("isKnocked() at first", book.isKnocked(), false);
        book.tell(false);
        due("isKnocked() below the barrier", book.isKnocked(), true);
        book.tell(true);
        due("isKnocked() from then on", book.isKnocked(), true);
        book.setNote(1, 60, 80, 100, 50);
        book.setKind(true, false);
        book.tell(false);
        due("isKnocked(), the last is the first", book.isKnocked(), true);
        book.setNote(2, 0, 80, 100, 50);
        book.setAsset(0, 100, 0, 200);
        book.tell(false);
        book.tell(false);
        due("isKnocked(), barrier 0", book.isKnocked(), false);
    }

    private static void missed() {
        Barrierbook book = new Barrierbook();
        book.setAsset(0, 100, 60, 30);
        book.tell(false);
        due("missed(), one", book.missed(), 1);
        book.tell(false);
        due("missed(), two", book.missed(), 2);
        book.tell(true);
        due("missed(), none behind a coupon", book.missed(), 0);
        book.tell(false);
        due("missed(), the last too", book.missed(), 1);
    }

    private static void paid() {
        Barrierbook book = new Barrierbook();
        due("paid()", book.paid(), 0);
        book.tell(false);
        due("paid() 1", book.paid(), 50);
        book.tell(false);
        due("paid() 2", book.paid(), 100);
        book.tell(false);
        due("paid() 3", book.paid(), 100);
        book.tell(false);
        due("paid() 4", book.paid(), 1100);
        book.takeBack();
        due("paid() behind takeBack", book.paid(), 100);
    }

    private static void isOver() {
        Barrierbook book = new Barrierbook();
        for (int i = 1; i <= 3; i++) {
            book.tell(false);
            due("isOver() " + i, book.isOver(), false);
        }
        book.tell(false);
        due("isOver(), the last", book.isOver(), true);
        book.takeBack();
        due("isOver(), taken back", book.isOver(), false);
        book.setNote(2, 60, 80, 110, 50);
        book.tell(true);
        due("isOver(), called", book.isOver(), true);
        book.setNote(2, 60, 80, 111, 50);
        book.tell(true);
        due("isOver(), not called", book.isOver(), false);
    }

    // ---- promises 15 to 17

    private static void worth() {
        Barrierbook book = new Barrierbook();
        book.setNote(1, 100, 100, 0, 50);
        book.setMoves(false, 3);
        dueWorth("one period", book, 3 * 1050 + 7 * 920, 10);
        book.setNote(2, 100, 100, 110, 50);
        // up: called; down, up: 510, knocked, coupon; down, down: 420, knocked
        dueWorth("two periods", book, 30 * 1050 + 21 * 1050 + 49 * 840, 100);
        book.tell(false);
        dueWorth("one move told", book, 3 * 1050 + 7 * 840, 10);
        book.tell(false);
        dueWorth("over", book, 0, 1);
        book.takeBack();
        book.takeBack();
        book.tell(true);
        dueWorth("called", book, 0, 1);

        book.setNote(2, 0, 0, 200, 50);
        book.tell(true);
        dueWorth("coupons told are not counted", book, 10 * 1050, 10);
        book.setKind(false, true);
        book.setNote(2, 0, 100, 200, 50);
        book.tell(false);
        dueWorth("coupons remembered are counted", book, 3 * 1100 + 7 * 1000, 10);
        book.setNote(3, 0, 94, 200, 50);
        book.tell(false);
        book.tell(false);
        dueWorth("two coupons remembered are counted", book, 3 * 1150 + 7 * 1000, 10);
    }

    private static void worthIsWide() {
        Barrierbook book = new Barrierbook();
        book.setNote(8, 0, 0, 200, 500);
        book.setAsset(0, 1000, 0, 0);
        dueWorth("eight periods", book, 500000000000L, 100000000);
        due("eight periods: least()", book.least(), 5000);
        due("eight periods: most()", book.most(), 5000);
        due("eight periods: endsIn(8)", book.endsIn(8), 100000000);
    }

    private static void divisor() {
        Barrierbook book = new Barrierbook();
        book.setAsset(0, 500, 0, 0);
        book.setNote(8, 0, 0, 200, 0);
        long want = 100000000;
        for (int i = 0; i < 8; i++) {
            due("divisor() behind " + i, book.divisor(), want);
            book.tell(true);
            want /= 10;
        }
        due("divisor(), over", book.divisor(), 1);
        book.setNote(8, 0, 0, 0, 0);
        book.tell(true);
        due("divisor(), called", book.divisor(), 1);
    }

    private static void dueWorth(String what, Barrierbook book, long first, long second) {
        due(what + ": worth()", book.worth(), first);
        due(what + ": worthByPaths()", book.worthByPaths(), first);
        due(what + ": divisor()", book.divisor(), second);
    }

    // ---- promise 18

    private static void states() {
        Barrierbook book = new Barrierbook();
        book.setNote(3, 0, 0, 200, 0);
        due("states(), alike but for the order", book.states(), 4);
        book.setAsset(1, 500, 0, 0);
        due("states(), the price 0 alone", book.states(), 4);
        book.setAsset(0, 500, 0, 0);
        due("states(), no price moves", book.states(), 1);
        book.setAsset(1, 500, 50, 40);
        due("states(), the price 1 alone", book.states(), 4);
        // with 100 +- 10 in two periods: 120, 100 by two ways, 80
        book.setAsset(0, 100, 10, 10);
        book.setAsset(1, 100, 10, 10);
        book.setNote(2, 100, 0, 200, 0);
        due("states(), knocked or not", book.states(), 4);
        book.setNote(3, 0, 110, 200, 0);
        // behind down, up, up and up, down, up 110: none missed; behind up, up, down also none;
        // behind up, down, down 1 + 2 - 1 = 2, behind down, up, down and down, down, up: 3
        due("states(), missed", book.states(), 5);
        book.setNote(2, 0, 0, 110, 0);
        due("states(), not those called ahead", book.states(), 2);
        book.tell(false);
        due("states(), told a move", book.states(), 2);
        book.setNote(2, 0, 0, 0, 0);
        due("states(), all called ahead", book.states(), 0);
        book.tell(true);
        due("states(), over", book.states(), 1);
        book.setNote(1, 0, 0, 0, 0);
        due("states(), one period is the last", book.states(), 2);
    }

    // ---- promises 19 and 20

    private static void leastAndMost() {
        Barrierbook book = new Barrierbook();
        due("least()", book.least(), 1050);
        due("most()", book.most(), 1200);
        book.tell(false);
        due("least(), from now on", book.least(), 1050);
        due("most(), from now on", book.most(), 1150);
        book.tell(false);
        book.tell(false);
        due("least(), the last", book.least(), 1000);
        due("most(), the last", book.most(), 1050);
        book.tell(false);
        due("least(), over", book.least(), 0);
        due("most(), over", book.most(), 0);
        book.setAsset(0, 100, 1, 200);
        book.setNote(1, 100, 100, 0, 500);
        due("least(), all but lost", book.least(), 10);
        due("most(), a coupon", book.most(), 1500);
        // the asset 1 alone moves: to 115 and called with one coupon, to 80, 95, 110 and called
        // with two, or to 80, 95, 75, 90, 105 with three, alike to 80, 60, 75, 90, 105 with two
        book.setMoves(true, 5);
        book.setAsset(0, 100, 0, 0);
        book.setAsset(1, 100, 15, 20);
        book.setNote(5, 0, 90, 100, 100);
        due("most(), states alike but for what was paid", book.most(), 1300);
        due("least(), states alike but for what was paid", book.least(), 1000);
    }

    // ---- promise 21

    private static void endsIn() {
        Barrierbook book = new Barrierbook();
        book.setMoves(false, 3);
        // called at 550 behind up, at 510 behind down, up, at 520 behind down, down, up, up: last
        due("endsIn(1)", book.endsIn(1), 3000);
        due("endsIn(2)", book.endsIn(2), 7 * 3 * 100);
        due("endsIn(3)", book.endsIn(3), 0);
        due("endsIn(4)", book.endsIn(4), 7 * 7 * 100);
        for (int period : new int[] {0, 5, -1, FAR[0], FAR[1]}) {
            dueThrow("endsIn(" + period + ")", ARGUMENT, () -> book.endsIn(period));
        }
        book.tell(false);
        due("endsIn(1), told", book.endsIn(1), 0);
        due("endsIn(2), one told", book.endsIn(2), 300);
        due("endsIn(4), one told", book.endsIn(4), 700);
        book.tell(true);
        for (int period = 1; period <= 4; period++) {
            due("endsIn(" + period + "), over", book.endsIn(period), 0);
        }
        dueThrow("endsIn(5), over", ARGUMENT, () -> book.endsIn(5));
        book.setNote(8, 60, 80, 200, 50);
        due("endsIn(8)", book.endsIn(8), 100000000);
        book.setNote(1, 60, 80, 100, 50);
        due("endsIn(1), the last", book.endsIn(1), 10);
        dueThrow("endsIn(2), one period", ARGUMENT, () -> book.endsIn(2));
    }

    // ---- promise 22

    private static void knocks() {
        Barrierbook book = new Barrierbook();
        due("knocks(), never below", book.knocks(), 0);
        book.setMoves(false, 3);
        book.setAsset(0, 100, 60, 50);
        // down: 50, knocked, from then on
        book.setNote(2, 60, 80, 200, 50);
        due("knocks()", book.knocks(), 70);
        book.setNote(3, 60, 80, 102, 50);
        // up: called, not knocked; down, up: called, knocked; down, down: knocked
        due("knocks(), called ones too", book.knocks(), 700);
        book.tell(false);
        due("knocks(), knocked before", book.knocks(), 100);
        book.tell(true);
        due("knocks(), over, knocked", book.knocks(), 1);
        book.setKind(true, false);
        // at the end alone, below 60: down, down, and any third move from 1 but up to 61
        due("knocks(), at the end alone", book.knocks(), 7 * 7 * 7);
        book.tell(true);
        due("knocks(), over, not knocked", book.knocks(), 0);
    }

    // ---- all questions

    private static void askingChangesNothing() {
        Barrierbook book = new Barrierbook();
        book.tell(false);
        for (int i = 0; i < 3; i++) {
            due("again: worth()", book.worth(), 1081250);
            due("again: worthByPaths()", book.worthByPaths(), 1081250);
            due("again: states()", book.states(), 3);
            due("again: least()", book.least(), 1050);
            due("again: most()", book.most(), 1150);
            due("again: endsIn(2)", book.endsIn(2), 500);
            due("again: knocks()", book.knocks(), 0);
            due("again: told()", book.told(), 1);
            due("again: price(0)", book.price(0), 460);
            due("again: paid()", book.paid(), 50);
        }
        Barrierbook other = new Barrierbook();
        other.tell(true);
        due("another object's moves: told()", book.told(), 1);
        due("another object's moves: price(0)", book.price(0), 460);
    }

    /** No answer hangs on what was asked before it: each is asked first behind the same moves. */
    private static void eachQuestionAskedFirst() {
        due("first: worth()", remembering().worth(), 5 * 1100 + 5 * 1000);
        due("first: worthByPaths()", remembering().worthByPaths(), 5 * 1100 + 5 * 1000);
        due("first: divisor()", remembering().divisor(), 10);
        due("first: states()", remembering().states(), 2);
        due("first: least()", remembering().least(), 1000);
        due("first: most()", remembering().most(), 1100);
        due("first: endsIn(2)", remembering().endsIn(2), 10);
        due("first: knocks()", remembering().knocks(), 0);

        Barrierbook book = remembering();
        book.tell(true);
        due("once more: most()", book.most(), 0);
        book.takeBack();
        due("once more: knocks()", book.knocks(), 0);
        due("once more: most()", book.most(), 1100);
        book.setNote(2, 100, 100, 200, 50);
        book.tell(false);
        due("once more: knocks()", book.knocks(), 10);
        book.tell(false);
        due("once more: least()", book.least(), 0);
    }

    /** A note of two periods that has missed and remembers the coupon of the first one. */
    private static Barrierbook remembering() {
        Barrierbook book = new Barrierbook();
        book.setKind(false, true);
        book.setNote(2, 0, 100, 200, 50);
        book.tell(false);
        return book;
    }

    private static void due(String call, long got, long want) {
        CHECK.due(call, got, want);
    }

    private static void due(String call, boolean got, boolean want) {
        CHECK.due(call, got, want);
    }

    private static void dueThrow(String call, Class<? extends RuntimeException> want, Runnable run) {
        CHECK.dueThrow(call, want, run);
    }
}
