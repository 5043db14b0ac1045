/** The example in README.md answers what it says there. */
public final class ReadmeTest {
    private static final Check CHECK = new Check("ReadmeTest");

    public static void main(String[] args) {
        Barrierbook book = new Barrierbook();
        book.setAsset(1, 400, 20, 70);
        book.setMoves(true, 7);
        book.setNote(4, 60, 80, 100, 50);
        book.setKind(false, true);

        CHECK.due("worth()", book.worth(), 7240370);
        CHECK.due("worthByPaths()", book.worthByPaths(), 7240370);
        CHECK.due("divisor()", book.divisor(), 10000);
        CHECK.due("least()", book.least(), 350);
        CHECK.due("most()", book.most(), 1200);

        CHECK.due("tell(false)", book.tell(false), 50);
        CHECK.due("price(0)", book.price(0), 460);
        CHECK.due("price(1)", book.price(1), 420);
        CHECK.due("worst()", book.worst(), 92);
        CHECK.due("tell(true)", book.tell(true), 50);
        CHECK.due("paid()", book.paid(), 100);
        CHECK.due("takeBack()", book.takeBack(), 50);
        CHECK.due("told()", book.told(), 1);
        CHECK.finish();
    }
}
