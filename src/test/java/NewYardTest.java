/** Promise 1 (a new object) and promise 24 (about). */
public final class NewYardTest {
    private static final Check CHECK = new Check("NewYardTest");

    public static void main(String[] args) {
        aNewYardIsEmpty();
        aboutCounts();
        yardsAreApart();
        CHECK.end();
    }

    private static void aNewYardIsEmpty() {
        HuskYard yard = new HuskYard();
        CHECK.due("NONE", HuskYard.NONE, -1);
        for (int what = 0; what <= 9; what++) {
            CHECK.due("about(" + what + ")", yard.about(what), 0);
        }
        for (int what : new int[] {-1, 10, Integer.MIN_VALUE, Integer.MAX_VALUE}) {
            CHECK.due("about(" + what + ")", yard.about(what), -1);
        }
        CHECK.due("netOf(0, 0)", yard.netOf(0, 0), -1);
        CHECK.due("netOf(0, 6)", yard.netOf(0, 6), -1);
        CHECK.due("found(0, 0)", yard.found(0, 0), -1);
        CHECK.due("found(0, 1)", yard.found(0, 1), -1);
        CHECK.due("pull(0)", yard.pull(0), -1);
        CHECK.due("flood(0)", yard.flood(0), 0);
        CHECK.due("late()", yard.late(), 0);
        CHECK.due("spun(0, 0)", yard.spun(0, 0), -1);
        CHECK.due("clear()", yard.clear(), 0);
        CHECK.due("opened()", yard.opened(), 0);
        CHECK.due("from(0)", yard.from(0), -1);
        CHECK.due("away()", yard.away(), 0);
        CHECK.due("errs(false)", yard.errs(false), -200);
        CHECK.due("errs(true)", yard.errs(true), 200);
    }

    private static void aboutCounts() {
        HuskYard yard = new HuskYard();
        yard.net(0, 1, 300, 5);
        yard.net(0, 2, 40, 500);
        yard.net(1, 4, 1, 1);
        yard.net(2, 8, 2, 2);
        yard.weeks(5);
        yard.flood(0);
        yard.flood(2);
        yard.find(1, 0);
        yard.order(0, 1, 0, 1);
        yard.order(0, 1, 0, 1);
        yard.roll(1, 0);
        yard.roll(1, 0);
        yard.roll(1, 0);
        for (int i = 0; i < 5; i++) {
            yard.cut(1, 0);
        }
        for (int i = 0; i < 6; i++) {
            yard.reading(10, 10);
        }
        int[] before = {5, 4, 1, 2, 3, 5, 6, 0, 2, 1};
        for (int what = 0; what < before.length; what++) {
            CHECK.due("about(" + what + ") before pulls", yard.about(what), before[what]);
        }
        CHECK.due("pull(0), back and ripe", yard.pull(0), 300);
        CHECK.due("pull(2), in and ripe", yard.pull(2), 1);
        yard.clear();
        yard.away();
        int[] after = {5, 4, 1, 0, 0, 0, 6, 301, 2, 0};
        for (int what = 0; what < after.length; what++) {
            CHECK.due("about(" + what + ") after pulls", yard.about(what), after[what]);
        }
    }

    private static void yardsAreApart() {
        HuskYard one = new HuskYard();
        HuskYard other = new HuskYard();
        one.net(0, 1, 1, 1);
        one.ripens(0, 50);
        one.weeks(1);
        other.net(0, 1, 1, 9);
        CHECK.due("the other's week", other.about(0), 0);
        CHECK.due("the other's rate", other.netOf(0, 7), 9);
    }
}
