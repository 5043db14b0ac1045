/**
 * Long runs of calls, drawn by a fixed rule, on the program and on the reference: all answers are
 * the same. Ranges are drawn with their edges and, now and then, just outside them.
 */
public final class RunsTest {
    private static final int RUNS = 1000;
    private static final int CALLS = 300;
    private static final int QUESTIONS = 10;
    private static final int MOST_CALLS = 512;

    private final Check check = new Check("RunsTest");
    private long drawn = 20240229;
    private Barrierbook book;
    private Reference reference;
    private int run;
    private int calls;

    public static void main(String[] args) {
        RunsTest test = new RunsTest();
        for (int run = 1; run <= RUNS; run++) {
            test.compareRun(run);
        }
        test.check.finish();
    }

    private void compareRun(int number) {
        run = number;
        calls = 0;
        book = new Barrierbook();
        reference = new Reference();
        while (calls < CALLS) {
            if (draw(100) < 25) {
                set();
            }
            tellSome();
            askSome();
        }
        if (calls > MOST_CALLS) {
            throw new IllegalStateException("the test makes more calls than are promised");
        }
    }

    private void set() {
        switch (draw(4)) {
            case 0 -> setAsset();
            case 1 -> setMoves();
            case 2 -> setNote();
            default -> setKind();
        }
    }

    private void setAsset() {
        int asset = draw(50) == 0 ? -1 : draw(50) == 0 ? 2 : draw(2);
        int first = drawNear(100, 1000);
        int rise = drawNear(0, draw(2) == 0 ? 200 : 60);
        int fall = drawNear(0, draw(2) == 0 ? 200 : 60);
        same("setAsset(" + asset + ", " + first + ", " + rise + ", " + fall + ")",
                Check.thrownBy(() -> book.setAsset(asset, first, rise, fall)),
                Check.thrownBy(() -> reference.setAsset(asset, first, rise, fall)));
    }

    private void setMoves() {
        boolean isAgainst = draw(2) == 0;
        int chance = drawNear(1, 9);
        same("setMoves(" + isAgainst + ", " + chance + ")",
                Check.thrownBy(() -> book.setMoves(isAgainst, chance)),
                Check.thrownBy(() -> reference.setMoves(isAgainst, chance)));
    }

    private void setNote() {
        int periods = drawNear(1, 8);
        int barrier = drawNear(0, 100);
        int couponLevel = drawNear(0, 150);
        int callLevel = drawNear(0, 200);
        int coupon = drawNear(0, 500);
        same("setNote(" + periods + ", " + barrier + ", " + couponLevel + ", " + callLevel
                        + ", " + coupon + ")",
                Check.thrownBy(() -> book.setNote(periods, barrier, couponLevel, callLevel, coupon)),
                Check.thrownBy(() -> reference.setNote(periods, barrier, couponLevel, callLevel, coupon)));
    }

    private void setKind() {
        boolean isAtEnd = draw(2) == 0;
        boolean remembers = draw(2) == 0;
        same("setKind(" + isAtEnd + ", " + remembers + ")",
                Check.thrownBy(() -> book.setKind(isAtEnd, remembers)),
                Check.thrownBy(() -> reference.setKind(isAtEnd, remembers)));
    }

    private void tellSome() {
        for (int i = draw(4); i > 0; i--) {
            if (draw(4) == 0) {
                same("takeBack()", Check.answer(book::takeBack), Check.answer(reference::takeBack));
            } else {
                boolean isUp = draw(2) == 0;
                same("tell(" + isUp + ")", Check.answer(() -> book.tell(isUp)),
                        Check.answer(() -> reference.tell(isUp)));
            }
        }
    }

    /** Asks some questions, in any order, so that an answer that hangs on another one is seen. */
    private void askSome() {
        for (int i = 0; i < QUESTIONS; i++) {
            if (draw(2) == 0) {
                askStanding(draw(7));
            } else {
                askWorth(draw(8));
            }
        }
    }

    private void askStanding(int question) {
        int asset = draw(30) == 0 ? -1 : draw(30) == 0 ? 2 : draw(2);
        switch (question) {
            case 0 -> same("told()", Check.answer(book::told), Check.answer(reference::told));
            case 1 -> same("price(" + asset + ")", Check.answer(() -> book.price(asset)),
                    Check.answer(() -> reference.price(asset)));
            case 2 -> same("worst()", Check.answer(book::worst), Check.answer(reference::worst));
            case 3 -> same("isKnocked()", Check.answer(book::isKnocked), Check.answer(reference::isKnocked));
            case 4 -> same("missed()", Check.answer(book::missed), Check.answer(reference::missed));
            case 5 -> same("paid()", Check.answer(book::paid), Check.answer(reference::paid));
            default -> same("isOver()", Check.answer(book::isOver), Check.answer(reference::isOver));
        }
    }

    private void askWorth(int question) {
        int period = drawNear(1, 8);
        switch (question) {
            case 0 -> same("worth()", Check.answer(book::worth), Check.answer(reference::worth));
            case 1 -> same("worthByPaths()", Check.answer(book::worthByPaths),
                    Check.answer(reference::worth));
            case 2 -> same("divisor()", Check.answer(book::divisor), Check.answer(reference::divisor));
            case 3 -> same("states()", Check.answer(book::states), Check.answer(reference::states));
            case 4 -> same("least()", Check.answer(book::least), Check.answer(reference::least));
            case 5 -> same("most()", Check.answer(book::most), Check.answer(reference::most));
            case 6 -> same("endsIn(" + period + ")", Check.answer(() -> book.endsIn(period)),
                    Check.answer(() -> reference.endsIn(period)));
            default -> same("knocks()", Check.answer(book::knocks), Check.answer(reference::knocks));
        }
    }

    private void same(String call, String got, String want) {
        calls++;
        check.due("run " + run + ", call " + calls + ": " + call, got, want);
    }

    /** A number of the range, often one of its edges, seldom one just outside. */
    private int drawNear(int from, int to) {
        int kind = draw(100);
        if (kind < 2) {
            return kind == 0 ? from - 1 : to + 1;
        }
        if (kind < 14) {
            return kind < 8 ? from : to;
        }
        return from + draw(to - from + 1);
    }

    private int draw(int bound) {
        drawn = drawn * 6364136223846793005L + 1442695040888963407L;
        return (int) ((drawn >>> 33) % bound);
    }
}
