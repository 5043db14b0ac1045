/**
 * The edges that the document's sentences name, each met and just missed: a level at a bound and
 * below it, a price at 1, the last period and the one ahead of it, an object with no move told and
 * one with all of them, a note that is over, and all the 512 calls that an object is good for.
 */
public final class EdgesTest {
    private static final Class<IllegalArgumentException> ARGUMENT = IllegalArgumentException.class;
    private static final Class<IllegalStateException> STATE = IllegalStateException.class;
    private static final Check CHECK = new Check("EdgesTest");
    private static final int MOST_PERIODS = 8;
    private static final int MOST_CALLS = 512;
    private static final int SETTINGS = 5;

    /** A new object's answers. Up 550 and down, up 510 call; down, down 420 goes on to 380 or 470. */
    private static final String NEW = "{told 0, prices 500 500, worst 100, knocked false, missed 0,"
            + " paid 0, over false; worth 10906250, by paths 10906250, divisor 10000, states 3,"
            + " least 1050, most 1200, knocks 0; ends 5000 2500 0 2500"
            + " java.lang.IllegalArgumentException".repeat(4) + "}";

    public static void main(String[] args) {
        constant();
        noMoveTold();
        noMoveToldAfterEachSetting();
        eachSettingForgetsMoves();
        allMovesTold();
        calledInEachPeriod();
        calledAtOnce();
        neverCalledInTheLastPeriod();

        priceNotBelowOne();
        priceBelowOneOfEachAsset();
        priceTakenBackFromOne();
        levelRoundedDown();
        lesserOfBothLevels();

        barrierMetAndMissed();
        barrierAtTheEndAlone();
        knockedFromThenOn();
        knockedAheadOfTheCall();
        couponLevelMetAndMissed();
        couponsOfNoMissedPeriod();
        couponsOfAllMissedPeriods();
        couponsNotRemembered();
        couponAheadOfTheCall();
        callLevelMetAndMissed();
        lastPeriodBelowAHundred();

        weightsOfEachChance();
        worthOfTheLastPeriod();
        worthAtItsWidest();
        statesAlikeAndUnlike();
        statesUnlikeByPrices();
        statesNone();
        statesOfManyRows();
        statesOver();
        leastOfNothing();
        leastOfRowsThatMeet();
        mostOfAllCoupons();
        endsInEachPeriod();
        knocksNoneAndAll();
        knocksOver();

        lastCallOfMoves();
        lastCallOfQuestions();
        lastCallOfSettings();
        CHECK.finish();
    }

    // ---- no move told, all of them told, a note that is over

    private static void constant() {
        due("NONE", Barrierbook.NONE, -1);
    }

    private static void noMoveTold() {
        Barrierbook book = new Barrierbook();
        due("new", Answers.of(book), NEW);
        dueThrow("new: takeBack()", STATE, book::takeBack);
        book.tell(false);
        book.takeBack();
        due("one move taken back", Answers.of(book), NEW);
        dueThrow("one move taken back: takeBack()", STATE, book::takeBack);
        for (int i = 1; i <= 4; i++) {
            book.tell(false);
        }
        for (int i = 1; i <= 4; i++) {
            book.takeBack();
        }
        due("all moves taken back", Answers.of(book), NEW);
        dueThrow("all moves taken back: takeBack()", STATE, book::takeBack);
    }

    /** The settings as they are at first, made once more with no move told, change nothing. */
    private static void noMoveToldAfterEachSetting() {
        for (int setting = 0; setting < SETTINGS; setting++) {
            Barrierbook book = new Barrierbook();
            setAsAtFirst(book, setting);
            due("setting " + setting + ", no move told", Answers.of(book), NEW);
            dueThrow("setting " + setting + ": takeBack()", STATE, book::takeBack);
        }
    }

    private static void eachSettingForgetsMoves() {
        for (int setting = 0; setting < SETTINGS; setting++) {
            for (int moves = 1; moves <= 4; moves++) {
                Barrierbook book = new Barrierbook();
                for (int i = 1; i <= moves; i++) {
                    book.tell(false);
                }
                setAsAtFirst(book, setting);
                String name = "setting " + setting + ", told " + moves;
                due(name, Answers.of(book), NEW);
                dueThrow(name + ": takeBack()", STATE, book::takeBack);
            }
            Barrierbook called = new Barrierbook();
            called.tell(true);
            setAsAtFirst(called, setting);
            due("setting " + setting + ", called", Answers.of(called), NEW);
            due("setting " + setting + ", called: tell(down)", called.tell(false), 50);
        }
    }

    private static void setAsAtFirst(Barrierbook book, int setting) {
        switch (setting) {
            case 0 -> book.setAsset(0, 500, 50, 40);
            case 1 -> book.setAsset(1, 500, 50, 40);
            case 2 -> book.setMoves(false, 5);
            case 3 -> book.setNote(4, 60, 80, 100, 50);
            default -> book.setKind(false, false);
        }
    }

    private static void allMovesTold() {
        for (int periods = 1; periods <= MOST_PERIODS; periods++) {
            Barrierbook book = still(periods, 0, 0, 200, 7);
            String name = periods + " periods, all told: ";
            for (int i = 1; i <= periods; i++) {
                due(name + "divisor() ahead of " + i, book.divisor(), tenTo(periods - i + 1));
                due(name + "isOver() ahead of " + i, book.isOver(), false);
                due(name + "tell " + i, book.tell(i % 2 == 0), i < periods ? 7 : 1007);
                due(name + "told() behind " + i, book.told(), i);
                due(name + "paid() behind " + i, book.paid(), i < periods ? 7 * i : 7 * i + 1000);
            }
            dueOver(name, book, periods, periods);
            for (int i = periods; i >= 1; i--) {
                due(name + "takeBack " + i, book.takeBack(), i < periods ? 7 : 1007);
                due(name + "told() with " + i + " taken back", book.told(), i - 1);
                due(name + "paid() with " + i + " taken back", book.paid(), 7 * (i - 1));
                due(name + "isOver() with " + i + " taken back", book.isOver(), false);
            }
            dueThrow(name + "takeBack() of none", STATE, book::takeBack);
        }
    }

    /** A note over behind so many moves, not knocked, without a period missed. */
    private static void dueOver(String name, Barrierbook book, int told, int periods) {
        due(name + "isOver()", book.isOver(), true);
        due(name + "told()", book.told(), told);
        due(name + "missed()", book.missed(), 0);
        due(name + "isKnocked()", book.isKnocked(), false);
        due(name + "worth()", book.worth(), 0);
        due(name + "worthByPaths()", book.worthByPaths(), 0);
        due(name + "divisor()", book.divisor(), 1);
        due(name + "states()", book.states(), 1);
        due(name + "least()", book.least(), 0);
        due(name + "most()", book.most(), 0);
        due(name + "knocks()", book.knocks(), 0);
        for (int period = 1; period <= periods; period++) {
            due(name + "endsIn(" + period + ")", book.endsIn(period), 0);
        }
        dueThrow(name + "endsIn(0)", ARGUMENT, () -> book.endsIn(0));
        dueThrow(name + "endsIn behind the last", ARGUMENT, () -> book.endsIn(periods + 1));
        dueThrow(name + "tell(up)", STATE, () -> book.tell(true));
        dueThrow(name + "tell(down)", STATE, () -> book.tell(false));
        due(name + "told() behind tell", book.told(), told);
    }

    /** The level stays 100 with each move down; the first move up lets it be 120 and calls. */
    private static void calledInEachPeriod() {
        for (int periods = 2; periods <= MOST_PERIODS; periods++) {
            for (int last = 1; last < periods; last++) {
                Barrierbook book = callable(periods);
                String name = "called in " + last + " of " + periods + ": ";
                for (int i = 1; i < last; i++) {
                    due(name + "tell " + i, book.tell(false), 9);
                    due(name + "isOver() behind " + i, book.isOver(), false);
                }
                due(name + "tell(up)", book.tell(true), 1009);
                due(name + "paid()", book.paid(), 1000 + 9 * last);
                dueOver(name, book, last, periods);
                due(name + "takeBack()", book.takeBack(), 1009);
                due(name + "isOver() taken back", book.isOver(), false);
                due(name + "divisor() taken back", book.divisor(), tenTo(periods - last + 1));
                due(name + "tell(down) instead", book.tell(false), 9);
            }
        }
    }

    private static Barrierbook callable(int periods) {
        Barrierbook book = new Barrierbook();
        book.setAsset(0, 100, 20, 0);
        book.setAsset(1, 100, 20, 0);
        book.setNote(periods, 100, 100, 120, 9);
        return book;
    }

    /** With the call level 0 the first move ends the note, unless its period is the last one. */
    private static void calledAtOnce() {
        for (int periods = 2; periods <= MOST_PERIODS; periods++) {
            Barrierbook book = still(periods, 100, 0, 0, 11);
            book.setMoves(false, 2);
            String name = "called at once of " + periods + ": ";
            due(name + "endsIn(1)", book.endsIn(1), tenTo(periods));
            for (int period = 2; period <= periods; period++) {
                due(name + "endsIn(" + period + ")", book.endsIn(period), 0);
            }
            due(name + "worth()", book.worth(), 1011 * tenTo(periods));
            due(name + "worthByPaths()", book.worthByPaths(), 1011 * tenTo(periods));
            due(name + "states()", book.states(), 0);
            due(name + "least()", book.least(), 1011);
            due(name + "most()", book.most(), 1011);
            due(name + "tell(down)", book.tell(false), 1011);
            due(name + "isOver()", book.isOver(), true);
        }
    }

    private static void neverCalledInTheLastPeriod() {
        Barrierbook book = still(1, 0, 0, 0, 0);
        due("call level in the only period: states()", book.states(), 1);
        due("call level in the only period: endsIn(1)", book.endsIn(1), 10);
        // at the level 92, knocked: as the last period pays, not as the call does
        book = new Barrierbook();
        book.setNote(1, 100, 150, 0, 0);
        due("call level in the only period: tell(down)", book.tell(false), 920);
        book.setAsset(0, 100, 0, 10);
        book.setNote(2, 100, 150, 95, 0);
        due("call level missed ahead of the last period", book.tell(false), 0);
        book.setAsset(0, 100, 9, 10);
        book.tell(false);
        due("call level met in the last period", book.tell(true), 990);
    }

    // ---- prices and levels

    private static void priceNotBelowOne() {
        int[] falls = {98, 99, 100, 101, 200};
        int[] prices = {2, 1, 1, 1, 1};
        for (int i = 0; i < falls.length; i++) {
            Barrierbook book = new Barrierbook();
            book.setAsset(0, 100, 5, falls[i]);
            book.setNote(8, 0, 150, 200, 0);
            book.tell(false);
            due("price of 100 less " + falls[i], book.price(0), prices[i]);
            book.tell(false);
            due("price of 100 less " + falls[i] + " twice", book.price(0), 1);
            book.tell(false);
            due("price of 100 less " + falls[i] + " thrice", book.price(0), 1);
            book.tell(true);
            due("price of 100 less " + falls[i] + ", up from 1", book.price(0), 6);
        }
        Barrierbook book = new Barrierbook();
        book.setAsset(0, 100, 0, 200);
        book.tell(false);
        book.tell(true);
        due("price 1 that rises by 0", book.price(0), 1);
    }

    private static void priceBelowOneOfEachAsset() {
        Barrierbook book = new Barrierbook();
        book.setAsset(1, 100, 5, 101);
        book.tell(false);
        due("price(1) with a move down", book.price(1), 1);
        due("price(0) with a move down", book.price(0), 460);
        book.setMoves(true, 5);
        book.tell(true);
        due("price(1) against, with a move up", book.price(1), 1);
        due("price(0), with a move up", book.price(0), 550);
        book.tell(false);
        due("price(1) against, with a move down", book.price(1), 6);
        book.setAsset(0, 100, 5, 100);
        book.tell(false);
        due("price(0) with the other against", book.price(0), 1);
        due("price(1) against, by its rise", book.price(1), 105);
    }

    private static void priceTakenBackFromOne() {
        Barrierbook book = new Barrierbook();
        book.setAsset(0, 100, 5, 60);
        book.setNote(4, 0, 150, 200, 0);
        book.tell(false);
        book.tell(false);
        book.tell(false);
        due("three falls", book.price(0), 1);
        book.takeBack();
        due("one fall taken back", book.price(0), 1);
        book.takeBack();
        due("two falls taken back", book.price(0), 40);
        book.takeBack();
        due("all falls taken back", book.price(0), 100);
    }

    private static void levelRoundedDown() {
        due("999 of 1000", worstBehind(1000, 0, 1, false), 99);
        due("991 of 1000", worstBehind(1000, 0, 9, false), 99);
        due("990 of 1000", worstBehind(1000, 0, 10, false), 99);
        due("989 of 1000", worstBehind(1000, 0, 11, false), 98);
        due("302 of 300", worstBehind(300, 2, 0, true), 100);
        due("303 of 300", worstBehind(300, 3, 0, true), 101);
        due("1 of 100", worstBehind(100, 0, 200, false), 1);
        due("1 of 101", worstBehind(101, 0, 200, false), 0);
        due("2 of 199", worstBehind(199, 0, 197, false), 1);
        due("2 of 201", worstBehind(201, 0, 199, false), 0);
        due("1000 of 1000", worstBehind(1000, 0, 0, false), 100);
        due("300 of 100", worstBehind(100, 200, 0, true), 300);
    }

    private static int worstBehind(int first, int rise, int fall, boolean isUp) {
        Barrierbook book = new Barrierbook();
        book.setAsset(0, first, rise, fall);
        book.setAsset(1, first, 200, 0);
        due("worst() of a first price", book.worst(), 100);
        book.tell(isUp);
        return book.worst();
    }

    private static void lesserOfBothLevels() {
        Barrierbook book = new Barrierbook();
        book.setAsset(0, 100, 0, 30);
        book.setAsset(1, 1000, 0, 200);
        book.tell(false);
        due("levels 70 and 80", book.worst(), 70);
        book.setAsset(0, 100, 0, 20);
        book.tell(false);
        due("levels 80 and 80", book.worst(), 80);
        book.setAsset(0, 100, 0, 19);
        book.tell(false);
        due("levels 81 and 80", book.worst(), 80);
    }

    // ---- barrier, coupons, ends

    private static void barrierMetAndMissed() {
        for (int barrier = 1; barrier <= 100; barrier++) {
            Barrierbook book = new Barrierbook();
            book.setNote(2, barrier, 150, 200, 0);
            Levels.tellTo(book, barrier);
            due("barrier " + barrier + " met: worst()", book.worst(), barrier);
            due("barrier " + barrier + " met", book.isKnocked(), false);
            Levels.tellTo(book, barrier - 1);
            due("barrier " + barrier + " missed", book.isKnocked(), true);
        }
        Barrierbook book = new Barrierbook();
        book.setNote(2, 0, 150, 200, 0);
        Levels.tellTo(book, 0);
        due("barrier 0 with the level 0", book.isKnocked(), false);
    }

    private static void barrierAtTheEndAlone() {
        for (int periods = 1; periods <= MOST_PERIODS; periods++) {
            Barrierbook book = new Barrierbook();
            book.setKind(true, false);
            book.setNote(periods, 60, 150, 200, 0);
            String name = "asked at the end of " + periods;
            Levels.tellTo(book, 59);
            for (int i = 2; i <= periods; i++) {
                due(name + ", not yet in " + (i - 1), book.isKnocked(), false);
                book.tell(false);
            }
            due(name + ", in the last", book.isKnocked(), true);
            book.takeBack();
            due(name + ", the last taken back", book.isKnocked(), false);
        }
        Barrierbook book = new Barrierbook();
        book.setKind(true, false);
        book.setNote(1, 60, 150, 200, 0);
        due("asked at the end, met: tell", Levels.tellTo(book, 60), 1000);
        due("asked at the end, met", book.isKnocked(), false);
        due("asked at the end, missed: tell", Levels.tellTo(book, 59), 590);
    }

    private static void knockedFromThenOn() {
        Barrierbook book = new Barrierbook();
        book.setAsset(0, 100, 45, 50);
        book.setNote(4, 60, 150, 200, 0);
        book.tell(false);
        due("level 50: isKnocked()", book.isKnocked(), true);
        book.tell(true);
        due("level 95: isKnocked()", book.isKnocked(), true);
        due("level 95: knocks()", book.knocks(), 100);
        book.takeBack();
        due("level 50 again: isKnocked()", book.isKnocked(), true);
        book.takeBack();
        due("level 100 again: isKnocked()", book.isKnocked(), false);
        book.tell(true);
        due("level 110 instead: isKnocked()", book.isKnocked(), false);
    }

    /** A period asks its barrier first: a note can be knocked in the period that calls it. */
    private static void knockedAheadOfTheCall() {
        Barrierbook book = new Barrierbook();
        book.setNote(2, 96, 150, 95, 50);
        due("knocked and called: tell", Levels.tellTo(book, 95), 1000);
        due("knocked and called: isKnocked()", book.isKnocked(), true);
        due("knocked and called: isOver()", book.isOver(), true);
        due("knocked and called: knocks()", book.knocks(), 1);
        due("knocked and called: missed()", book.missed(), 1);
        book.takeBack();
        due("knocked and called, taken back: isKnocked()", book.isKnocked(), false);
        due("knocked and called, taken back: missed()", book.missed(), 0);
        due("knocked and called, taken back: knocks()", book.knocks(), 50);
        book.setKind(true, false);
        book.tell(false);
        due("called, asked at the end alone: isOver()", book.isOver(), true);
        due("called, asked at the end alone: isKnocked()", book.isKnocked(), false);
    }

    private static void couponLevelMetAndMissed() {
        for (int level = 1; level <= 150; level++) {
            Barrierbook book = new Barrierbook();
            book.setNote(2, 0, level, 200, 50);
            due("coupon level " + level + " met", Levels.tellTo(book, level), 50);
            due("coupon level " + level + " met: missed()", book.missed(), 0);
            due("coupon level " + level + " missed", Levels.tellTo(book, level - 1), 0);
            due("coupon level " + level + " missed: missed()", book.missed(), 1);
        }
        Barrierbook book = new Barrierbook();
        book.setNote(2, 0, 0, 200, 50);
        due("coupon level 0 with the level 0", Levels.tellTo(book, 0), 50);
    }

    private static void couponsOfNoMissedPeriod() {
        Barrierbook book = still(8, 0, 100, 200, 30);
        book.setKind(false, true);
        for (int i = 1; i <= 7; i++) {
            due("none missed, remembered: tell " + i, book.tell(true), 30);
            due("none missed, remembered: missed() " + i, book.missed(), 0);
        }
        due("none missed, remembered: the last", book.tell(true), 1030);
    }

    /** Each number of periods missed, 1 to 7, and then one at the coupon level; 8 missed at last. */
    private static void couponsOfAllMissedPeriods() {
        for (int missed = 1; missed <= 7; missed++) {
            Barrierbook book = fallingByOne(missed);
            String name = missed + " missed, remembered: ";
            due(name + "missed()", book.missed(), missed);
            int repaid = missed == 7 ? 1000 : 0;
            due(name + "tell(up)", book.tell(true), repaid + 30 * (missed + 1));
            due(name + "missed() behind it", book.missed(), 0);
            due(name + "takeBack()", book.takeBack(), repaid + 30 * (missed + 1));
            due(name + "missed() taken back", book.missed(), missed);
        }
        Barrierbook book = fallingByOne(8);
        due("all missed, remembered: missed()", book.missed(), 8);
        due("all missed, remembered: paid()", book.paid(), 1000);
    }

    private static void couponsNotRemembered() {
        Barrierbook book = new Barrierbook();
        book.setAsset(0, 100, 40, 10);
        book.setAsset(1, 100, 200, 0);
        book.setNote(8, 0, 100, 200, 30);
        for (int i = 1; i <= 3; i++) {
            book.tell(false);
        }
        due("three missed, not remembered: missed()", book.missed(), 3);
        due("three missed, not remembered: tell(up)", book.tell(true), 30);
        due("three missed, not remembered: none any more", book.missed(), 0);
    }

    /** A remembering note of 8 periods, told so many moves down, each to below its coupon level. */
    private static Barrierbook fallingByOne(int moves) {
        Barrierbook book = new Barrierbook();
        book.setKind(false, true);
        book.setAsset(0, 100, 50, 1);
        book.setAsset(1, 100, 200, 0);
        book.setNote(8, 0, 100, 200, 30);
        for (int i = 1; i <= moves; i++) {
            book.tell(false);
        }
        return book;
    }

    private static void couponAheadOfTheCall() {
        Barrierbook book = new Barrierbook();
        book.setKind(false, true);
        book.setAsset(0, 100, 20, 10);
        book.setAsset(1, 100, 200, 0);
        book.setNote(3, 0, 110, 110, 30);
        due("a coupon missed", book.tell(false), 0);
        due("two coupons with the call", book.tell(true), 1060);
        due("two coupons with the call: missed()", book.missed(), 0);
        due("two coupons with the call, taken back", book.takeBack(), 1060);
        due("two coupons with the call, taken back: missed()", book.missed(), 1);
        due("two coupons with the call, taken back: paid()", book.paid(), 0);
    }

    private static void callLevelMetAndMissed() {
        for (int level = 1; level <= 200; level++) {
            Barrierbook book = new Barrierbook();
            book.setNote(2, 0, 0, level, 0);
            due("call level " + level + " met", Levels.tellTo(book, level), 1000);
            due("call level " + level + " met: worst()", book.worst(), level);
            due("call level " + level + " met: isOver()", book.isOver(), true);
            due("call level " + level + " missed", Levels.tellTo(book, level - 1), 0);
            due("call level " + level + " missed: isOver()", book.isOver(), false);
        }
        Barrierbook book = new Barrierbook();
        book.setNote(2, 0, 0, 0, 0);
        due("call level 0 with the level 0", Levels.tellTo(book, 0), 1000);
    }

    private static void lastPeriodBelowAHundred() {
        Barrierbook book = new Barrierbook();
        book.setNote(1, 100, 150, 200, 0);
        for (int level = 0; level <= 99; level++) {
            due("last, knocked, level " + level, Levels.tellTo(book, level), 10 * level);
        }
        due("last, not knocked, level 100", Levels.tellTo(book, 100), 1000);
        due("last, not knocked, level 101", Levels.tellTo(book, 101), 1000);
        book.setNote(1, 99, 150, 200, 0);
        due("last, not knocked, level 99", Levels.tellTo(book, 99), 1000);
        int[] rises = {9, 10, 11};
        int[] paid = {990, 1000, 1000};
        for (int i = 0; i < rises.length; i++) {
            book = new Barrierbook();
            book.setNote(2, 95, 150, 200, 0);
            book.setAsset(0, 100, rises[i], 10);
            book.tell(false);
            due("last, knocked ahead, level " + (90 + rises[i]), book.tell(true), paid[i]);
            due("last, knocked ahead: isKnocked()", book.isKnocked(), true);
        }
    }

    // ---- worth

    private static void weightsOfEachChance() {
        for (int chance = 1; chance <= 9; chance++) {
            Barrierbook book = new Barrierbook();
            book.setMoves(false, chance);
            book.setNote(1, 100, 150, 200, 0);
            String name = "chance " + chance + ": ";
            int down = 10 - chance;
            due(name + "worth()", book.worth(), chance * 1000 + down * 920);
            due(name + "worthByPaths()", book.worthByPaths(), chance * 1000 + down * 920);
            due(name + "divisor()", book.divisor(), 10);
            due(name + "endsIn(1)", book.endsIn(1), 10);
            due(name + "knocks()", book.knocks(), down);
        }
    }

    /** One move is left: only what is paid from now on counts, coupons remembered too. */
    private static void worthOfTheLastPeriod() {
        Barrierbook book = fallingByOne(7);
        due("one move left: worth()", book.worth(), 5 * 1240 + 5 * 1000);
        due("one move left: worthByPaths()", book.worthByPaths(), 5 * 1240 + 5 * 1000);
        due("one move left: divisor()", book.divisor(), 10);
        due("one move left: states()", book.states(), 2);
        due("one move left: least()", book.least(), 1000);
        due("one move left: most()", book.most(), 1240);
        due("one move left: endsIn(7)", book.endsIn(7), 0);
        due("one move left: endsIn(8)", book.endsIn(8), 10);
    }

    private static void worthAtItsWidest() {
        for (int chance = 1; chance <= 9; chance++) {
            Barrierbook book = still(8, 100, 0, 200, 500);
            book.setMoves(true, chance);
            due("widest: worth()", book.worth(), 5000 * tenTo(8));
            due("widest: worthByPaths()", book.worthByPaths(), 5000 * tenTo(8));
            due("widest: divisor()", book.divisor(), tenTo(8));
            due("widest: endsIn(8)", book.endsIn(8), tenTo(8));
        }
    }

    private static void statesAlikeAndUnlike() {
        Barrierbook book = new Barrierbook();
        book.setAsset(0, 100, 10, 10);
        book.setAsset(1, 100, 10, 10);
        book.setNote(2, 0, 150, 200, 0);
        due("alike behind up, down and down, up", book.states(), 3);
        book.setNote(2, 91, 150, 200, 0);
        due("unlike by the knock alone", book.states(), 4);
        book.setNote(2, 90, 150, 200, 0);
        due("unlike by no knock", book.states(), 3);
        book.setNote(2, 0, 110, 200, 0);
        due("unlike by the missed periods alone", book.states(), 4);
        book.setNote(2, 0, 111, 200, 0);
        due("both missed alike", book.states(), 3);
        book.setKind(true, false);
        book.setNote(2, 100, 150, 200, 0);
        due("knocked at the end alone", book.states(), 3);
    }

    private static void statesUnlikeByPrices() {
        Barrierbook book = new Barrierbook();
        book.setNote(1, 0, 0, 200, 0);
        book.setAsset(0, 100, 0, 0);
        book.setAsset(1, 100, 10, 10);
        due("unlike by the price 1 alone", book.states(), 2);
        book.setAsset(0, 100, 10, 10);
        book.setAsset(1, 100, 0, 0);
        due("unlike by the price 0 alone", book.states(), 2);
        book.setAsset(0, 100, 0, 0);
        due("one state", book.states(), 1);
        book.setAsset(0, 100, 0, 99);
        book.setNote(8, 0, 150, 200, 0);
        // 100 if no move is down, else 1
        due("alike by the price that never falls below 1", book.states(), 2);
        book.setAsset(0, 100, 0, 98);
        // 100, 2 and 1
        due("unlike by the price 2", book.states(), 3);
    }

    private static void statesNone() {
        for (int periods = 2; periods <= MOST_PERIODS; periods++) {
            Barrierbook book = new Barrierbook();
            book.setNote(periods, 0, 0, 92, 0);
            due("all called ahead of " + periods, book.states(), 0);
            // one move down lets the asset 0 be at the level 92 or below for good; a state for each
            // number of moves down, 1 to all of them
            book.setNote(periods, 0, 0, 93, 0);
            book.setAsset(0, 500, 0, 40);
            due("not called with a move down of " + periods, book.states(), periods);
        }
    }

    /** The fullest tree that a search has found: 160 unlike states behind 256 rows of moves. */
    private static void statesOfManyRows() {
        Barrierbook book = new Barrierbook();
        book.setAsset(0, 101, 46, 137);
        book.setAsset(1, 103, 188, 105);
        book.setMoves(true, 7);
        book.setNote(8, 6, 59, 200, 500);
        book.setKind(true, true);
        Reference reference = new Reference();
        reference.setAsset(0, 101, 46, 137);
        reference.setAsset(1, 103, 188, 105);
        reference.setMoves(true, 7);
        reference.setNote(8, 6, 59, 200, 500);
        reference.setKind(true, true);
        due("many rows: states()", book.states(), 160);
        due("many rows: states(), by the reference", reference.states(), 160);
        due("many rows: worth()", book.worth(), reference.worth());
        due("many rows: worthByPaths()", book.worthByPaths(), reference.worth());
        due("many rows: least()", book.least(), reference.least());
        due("many rows: most()", book.most(), reference.most());
        due("many rows: knocks()", book.knocks(), reference.knocks());
        due("many rows: endsIn(8)", book.endsIn(8), reference.endsIn(8));
    }

    private static void statesOver() {
        Barrierbook book = new Barrierbook();
        book.setNote(2, 0, 0, 100, 0);
        book.tell(true);
        due("states(), called", book.states(), 1);
        book.takeBack();
        book.tell(false);
        due("states(), one move left", book.states(), 2);
        book.tell(false);
        due("states(), the last told", book.states(), 1);
    }

    /** 0 can be paid by a note that is not over: knocked at the level 0, without a coupon. */
    private static void leastOfNothing() {
        Barrierbook book = new Barrierbook();
        book.setAsset(0, 101, 0, 200);
        book.setNote(1, 100, 100, 200, 0);
        due("level 0: least()", book.least(), 0);
        due("level 0: most()", book.most(), 1000);
        due("level 0: worth()", book.worth(), 5000);
        book.setAsset(0, 100, 0, 200);
        due("level 1: least()", book.least(), 10);
        book.setNote(1, 1, 100, 200, 0);
        due("level 1, not knocked: least()", book.least(), 1000);
    }

    /**
     * The least is paid in down, up, up, up alone: one coupon of 5, and nothing for the level 0.
     * It meets up, down, up with its two coupons in a state that is alike. Four moves up pay two
     * coupons; the rows with two moves up or less end at the level 1 at least and pay 10 or more.
     */
    private static void leastOfRowsThatMeet() {
        Barrierbook book = new Barrierbook();
        book.setMoves(true, 5);
        book.setAsset(0, 100, 6, 80);
        book.setAsset(1, 101, 0, 34);
        book.setNote(4, 100, 30, 200, 5);
        book.setKind(true, false);
        due("rows that meet: least()", book.least(), 5);
        due("rows that meet: down", book.tell(false), 0);
        due("rows that meet: down, up", book.tell(true), 0);
        due("rows that meet: down, up, up", book.tell(true), 5);
        due("rows that meet: down, up, up, up", book.tell(true), 0);
        due("rows that meet: all paid", book.paid(), 5);
        book.setKind(true, false);
        due("rows that meet: up", book.tell(true), 5);
        due("rows that meet: up: least()", book.least(), 5);
    }

    private static void mostOfAllCoupons() {
        Barrierbook book = still(8, 0, 0, 200, 500);
        due("eight coupons: most()", book.most(), 5000);
        due("eight coupons: least()", book.least(), 5000);
        book.tell(true);
        due("eight coupons, one paid: most()", book.most(), 4500);
        book = new Barrierbook();
        book.setKind(false, true);
        book.setAsset(0, 100, 50, 1);
        book.setAsset(1, 100, 200, 0);
        book.setNote(8, 0, 101, 200, 500);
        for (int i = 1; i <= 7; i++) {
            book.tell(false);
        }
        due("eight coupons, seven missed: most()", book.most(), 5000);
        due("eight coupons, seven missed: least()", book.least(), 1000);
    }

    /** The first move up calls; with each move told its period answers 0. */
    private static void endsInEachPeriod() {
        for (int periods = 1; periods <= MOST_PERIODS; periods++) {
            Barrierbook book = callable(periods);
            book.setMoves(false, 3);
            for (int told = 0; told < periods; told++) {
                dueEnds(book, told, periods);
                book.tell(false);
            }
            dueEnds(book, periods, periods);
        }
    }

    private static void dueEnds(Barrierbook book, int told, int periods) {
        String name = told + " of " + periods + " told: ";
        for (int period = 1; period <= told; period++) {
            due(name + "endsIn(" + period + "), told", book.endsIn(period), 0);
        }
        long downs = 1;
        for (int period = told + 1; period < periods; period++) {
            long want = downs * 3 * tenTo(periods - period);
            due(name + "endsIn(" + period + ")", book.endsIn(period), want);
            downs *= 7;
        }
        if (told < periods) {
            due(name + "endsIn the last", book.endsIn(periods), downs * 10);
        }
        dueThrow(name + "endsIn(0)", ARGUMENT, () -> book.endsIn(0));
        dueThrow(name + "endsIn behind the last", ARGUMENT, () -> book.endsIn(periods + 1));
    }

    private static void knocksNoneAndAll() {
        for (int periods = 1; periods <= MOST_PERIODS; periods++) {
            Barrierbook book = still(periods, 100, 0, 200, 0);
            due("knocks(), none of " + periods, book.knocks(), 0);
            book.setAsset(1, 500, 0, 1);
            book.setMoves(true, 9);
            // against: a move up lets the asset 1 fall to 499, the level 99; 1 of 10 is down
            due("knocks(), all but down alone of " + periods, book.knocks(), tenTo(periods) - 1);
            book.tell(true);
            due("knocks(), all of " + periods, book.knocks(), tenTo(periods - 1));
        }
    }

    private static void knocksOver() {
        Barrierbook book = new Barrierbook();
        book.setNote(1, 60, 0, 0, 0);
        Levels.tellTo(book, 60);
        due("knocks(), over, not knocked", book.knocks(), 0);
        Levels.tellTo(book, 59);
        due("knocks(), over, knocked", book.knocks(), 1);
        book.setNote(8, 60, 0, 0, 0);
        Levels.tellTo(book, 60);
        due("knocks(), called, not knocked", book.knocks(), 0);
        Levels.tellTo(book, 59);
        due("knocks(), called, knocked", book.knocks(), 1);
    }

    // ---- the last of the 512 calls

    private static void lastCallOfMoves() {
        Barrierbook book = new Barrierbook();
        for (int call = 1; call < MOST_CALLS; call += 2) {
            due("call " + call + ": tell(up)", book.tell(true), 1050);
            due("call " + (call + 1) + ": takeBack()", book.takeBack(), 1050);
        }
        Barrierbook over = new Barrierbook();
        over.tell(true);
        for (int call = 2; call < MOST_CALLS; call++) {
            dueThrow("call " + call + ": tell, over", STATE, () -> over.tell(true));
        }
        due("call " + MOST_CALLS + ": takeBack()", over.takeBack(), 1050);
    }

    private static void lastCallOfQuestions() {
        Barrierbook book = new Barrierbook();
        for (int asked = Answers.CALLS; asked <= MOST_CALLS; asked += Answers.CALLS) {
            due("asked with the call " + asked, Answers.of(book), NEW);
        }
    }

    private static void lastCallOfSettings() {
        Barrierbook book = new Barrierbook();
        int call = 0;
        while (call + SETTINGS + 1 <= MOST_CALLS) {
            for (int setting = 0; setting < SETTINGS; setting++) {
                setAsAtFirst(book, setting);
            }
            call += SETTINGS + 1;
            due("set with the call " + call, book.worth(), 10906250);
        }
    }

    // ---- helpers

    /** A note on two assets whose prices never move. */
    private static Barrierbook still(int periods, int barrier, int couponLevel, int callLevel,
            int coupon) {
        Barrierbook book = new Barrierbook();
        book.setAsset(0, 100, 0, 0);
        book.setAsset(1, 1000, 0, 0);
        book.setNote(periods, barrier, couponLevel, callLevel, coupon);
        return book;
    }

    private static long tenTo(int exponent) {
        return exponent == 0 ? 1 : 10 * tenTo(exponent - 1);
    }

    private static void due(String call, long got, long want) {
        CHECK.due(call, got, want);
    }

    private static void due(String call, boolean got, boolean want) {
        CHECK.due(call, got, want);
    }

    private static void due(String call, String got, String want) {
        CHECK.due(call, got, want);
    }

    private static void dueThrow(String call, Class<? extends RuntimeException> want, Runnable run) {
        CHECK.dueThrow(call, want, run);
    }
}
