/** Promises 11 to 15: orders, the change of sorts and the best row. */
public final class OrdersTest {
    private static final Check CHECK = new Check("OrdersTest");

    public static void main(String[] args) {
        orderTakesWhatTheTermsAllow();
        thereAreSevenOrders();
        changeTakesHoursAlone();
        changeIsTwoAtFirst();
        ofLikeRowsTheFirstByNumbers();
        worthWeighs();
        spunTellsPlacesOfTheRow();
        clearDropsOrdersAlone();
        CHECK.end();
    }

    private static void orderTakesWhatTheTermsAllow() {
        HuskYard yard = new HuskYard();
        CHECK.due("order(-1, 1, 0, 1)", yard.order(-1, 1, 0, 1), -1);
        CHECK.due("order(4, 1, 0, 1)", yard.order(4, 1, 0, 1), -1);
        CHECK.due("order(0, 0, 0, 1)", yard.order(0, 0, 0, 1), -1);
        CHECK.due("order(0, 101, 0, 1)", yard.order(0, 101, 0, 1), -1);
        CHECK.due("order(0, 1, -1, 1)", yard.order(0, 1, -1, 1), -1);
        CHECK.due("order(0, 1, 1001, 1)", yard.order(0, 1, 1001, 1), -1);
        CHECK.due("order(0, 1, 0, 0)", yard.order(0, 1, 0, 0), -1);
        CHECK.due("order(0, 1, 0, 10)", yard.order(0, 1, 0, 10), -1);
        CHECK.due("about(3)", yard.about(3), 0);
        CHECK.due("order(0, 1, 0, 1)", yard.order(0, 1, 0, 1), 0);
        CHECK.due("order(3, 100, 1000, 9)", yard.order(3, 100, 1000, 9), 1);
        CHECK.due("late()", yard.late(), 1);
    }

    private static void thereAreSevenOrders() {
        HuskYard yard = new HuskYard();
        for (int order = 0; order < 7; order++) {
            CHECK.due("order " + order, yard.order(0, 100, 0, 9), order);
        }
        CHECK.due("the eighth", yard.order(0, 1, 0, 1), -1);
        CHECK.due("about(3)", yard.about(3), 7);
        CHECK.due("late()", yard.late(), 9 * 100 * 28);
        for (int i = 0; i < 7; i++) {
            CHECK.due("spun(" + i + ", 0)", yard.spun(i, 0), i);
            CHECK.due("spun(" + i + ", 1)", yard.spun(i, 1), 100 * (i + 1));
        }
    }

    private static void changeTakesHoursAlone() {
        HuskYard yard = new HuskYard();
        yard.order(1, 10, 0, 1);
        CHECK.due("change(-1)", yard.change(-1), false);
        CHECK.due("change(51)", yard.change(51), false);
        CHECK.due("late() with 2", yard.late(), 12);
        CHECK.due("change(50)", yard.change(50), true);
        CHECK.due("late() with 50", yard.late(), 60);
        CHECK.due("change(0)", yard.change(0), true);
        CHECK.due("late() with 0", yard.late(), 10);
    }

    private static void changeIsTwoAtFirst() {
        HuskYard yard = new HuskYard();
        yard.order(2, 5, 0, 9);
        yard.order(2, 5, 0, 1);
        yard.order(0, 5, 1000, 1);
        CHECK.due("the sort stays between the two", yard.late(), 7 * 9 + 12);
        CHECK.due("spun(0, 1)", yard.spun(0, 1), 7);
        CHECK.due("spun(1, 1)", yard.spun(1, 1), 12);
        CHECK.due("back on sort 0", yard.spun(2, 1), 19);
    }

    private static void ofLikeRowsTheFirstByNumbers() {
        HuskYard yard = new HuskYard();
        yard.order(3, 9, 1000, 1);
        yard.order(1, 8, 1000, 2);
        yard.order(0, 7, 1000, 3);
        CHECK.due("late()", yard.late(), 0);
        for (int i = 0; i < 3; i++) {
            CHECK.due("spun(" + i + ", 0)", yard.spun(i, 0), i);
        }
        yard.order(2, 10, 12, 1);
        CHECK.due("late()", yard.late(), 0);
        int[] row = {3, 0, 1, 2};
        for (int i = 0; i < 4; i++) {
            CHECK.due("spun(" + i + ", 0) with one due soon", yard.spun(i, 0), row[i]);
        }
    }

    private static void worthWeighs() {
        HuskYard yard = new HuskYard();
        yard.order(0, 10, 10, 1);
        yard.order(0, 10, 10, 9);
        CHECK.due("late()", yard.late(), 10);
        CHECK.due("the dear one goes first", yard.spun(0, 0), 1);
        CHECK.due("the cheap one is late", yard.spun(1, 1), 20);
    }

    private static void spunTellsPlacesOfTheRow() {
        HuskYard yard = new HuskYard();
        yard.order(1, 3, 0, 1);
        CHECK.due("spun(0, 0)", yard.spun(0, 0), 0);
        CHECK.due("spun(0, 1)", yard.spun(0, 1), 5);
        CHECK.due("spun(0, 2)", yard.spun(0, 2), -1);
        CHECK.due("spun(0, -1)", yard.spun(0, -1), -1);
        CHECK.due("spun(-1, 0)", yard.spun(-1, 0), -1);
        CHECK.due("spun(1, 0)", yard.spun(1, 0), -1);
        CHECK.due("spun(1, 1)", yard.spun(1, 1), -1);
        CHECK.due("spun(7, 1)", yard.spun(7, 1), -1);
    }

    private static void clearDropsOrdersAlone() {
        HuskYard yard = new HuskYard();
        yard.change(7);
        yard.order(1, 3, 0, 1);
        yard.order(1, 4, 0, 1);
        CHECK.due("late() before", yard.late(), 24);
        CHECK.due("clear()", yard.clear(), 2);
        CHECK.due("clear() again", yard.clear(), 0);
        CHECK.due("spun(0, 0)", yard.spun(0, 0), -1);
        CHECK.due("late()", yard.late(), 0);
        CHECK.due("numbers begin anew", yard.order(1, 3, 0, 2), 0);
        CHECK.due("the change stays, the hours begin anew", yard.late(), 20);
    }
}
