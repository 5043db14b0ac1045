/** Lets a note's worst be just what a test wants. */
final class Levels {
    private Levels() {
    }

    /**
     * Sets both assets so that the worst is the level behind the first move, and tells it; the
     * move is up from the level 100 on. The assets do not go against each other.
     */
    static int tellTo(Barrierbook book, int level) {
        boolean isUp = level >= 100;
        if (isUp) {
            book.setAsset(0, 100, level - 100, 0);
        } else {
            book.setAsset(0, level == 0 ? 101 : 100, 0, level == 0 ? 200 : 100 - level);
        }
        book.setAsset(1, 100, 200, 0);
        return book.tell(isUp);
    }
}
