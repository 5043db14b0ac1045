/** All that a Barrierbook answers when it is asked, to compare how two of them stand. */
final class Answers {
    /** What one call of {@link #of} takes of the 512 calls that an object is good for. */
    static final int CALLS = 23;

    private static final int MOST_PERIODS = 8;

    private Answers() {
    }

    static String of(Barrierbook book) {
        return "{" + ofStanding(book) + "; " + ofWorth(book) + ";" + ofEnds(book) + "}";
    }

    private static String ofStanding(Barrierbook book) {
        return "told " + book.told()
                + ", prices " + book.price(0) + " " + book.price(1)
                + ", worst " + book.worst()
                + ", knocked " + book.isKnocked()
                + ", missed " + book.missed()
                + ", paid " + book.paid()
                + ", over " + book.isOver();
    }

    private static String ofWorth(Barrierbook book) {
        return "worth " + book.worth()
                + ", by paths " + book.worthByPaths()
                + ", divisor " + book.divisor()
                + ", states " + book.states()
                + ", least " + book.least()
                + ", most " + book.most()
                + ", knocks " + book.knocks();
    }

    private static String ofEnds(Barrierbook book) {
        StringBuilder ends = new StringBuilder(" ends");
        for (int period = 1; period <= MOST_PERIODS; period++) {
            int asked = period;
            ends.append(' ').append(Check.answer(() -> book.endsIn(asked)));
        }
        return ends.toString();
    }
}
