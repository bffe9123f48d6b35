/** Promises 11 to 15: orders, the change of sorts and the best row. */
public final class OrdersTest {
    private static final Check CHECK = new Check("OrdersTest");

    public static void main(String[] args) {
        ordersAreTaken();
        ordersAreRefused();
        thereAreSevenOrders();
        changeTakesHours();
        changeIsRefused();
        lateFromTheDueHour();
        lateByChanges();
        lateByWorth();
        theBestIsTheFirstOfLikeOnes();
        spunTellsPlaces();
        spunRefuses();
        clearDropsOrders();
        CHECK.end();
    }

    private static void row(HuskYard yard, int late, int... due) {
        CHECK.due("late()", yard.late(), late);
        for (int i = 0; i < due.length; i++) {
            CHECK.due("spun(" + i + ", 0)", yard.spun(i, 0), due[i]);
        }
    }

    private static void ends(HuskYard yard, int... due) {
        for (int i = 0; i < due.length; i++) {
            CHECK.due("spun(" + i + ", 1)", yard.spun(i, 1), due[i]);
        }
    }

    private static void ordersAreTaken() {
        CHECK.on(11, "the least and the greatest of everything");
        HuskYard yard = new HuskYard();
        CHECK.due("order(0, 1, 0, 1)", yard.order(0, 1, 0, 1), 0);
        CHECK.due("order(3, 100, 1000, 9)", yard.order(3, 100, 1000, 9), 1);
        CHECK.due("about(3)", yard.about(3), 2);
        row(yard, 1, 0, 1);
        ends(yard, 1, 103);
        CHECK.on(11, "two alike are two");
        CHECK.due("order(0, 1, 0, 1)", yard.order(0, 1, 0, 1), 2);
        row(yard, 1 + 2, 0, 2, 1);
    }

    private static void ordersAreRefused() {
        int[] far = {Integer.MIN_VALUE, Integer.MAX_VALUE};
        CHECK.on(11, "NONE for others: no such sort");
        for (int sort : new int[] {-1, 4, far[0], far[1]}) {
            CHECK.refused("order(" + sort + ", 1, 0, 1)", Yards::busy, y -> y.order(sort, 1, 0, 1));
        }
        CHECK.on(11, "NONE for others: hours too few, too many");
        for (int hours : new int[] {0, -1, 101, far[0], far[1]}) {
            CHECK.refused("order(0, " + hours + ", 0, 1)", Yards::busy, y -> y.order(0, hours, 0, 1));
        }
        CHECK.on(11, "NONE for others: due too soon, too late");
        for (int due : new int[] {-1, 1001, far[0], far[1]}) {
            CHECK.refused("order(0, 1, " + due + ", 1)", Yards::busy, y -> y.order(0, 1, due, 1));
        }
        CHECK.on(11, "NONE for others: worth too little, too much");
        for (int worth : new int[] {0, -1, 10, far[0], far[1]}) {
            CHECK.refused("order(0, 1, 0, " + worth + ")", Yards::busy, y -> y.order(0, 1, 0, worth));
        }
    }

    private static void thereAreSevenOrders() {
        CHECK.on(11, "the numbers 0 to 6");
        HuskYard yard = new HuskYard();
        for (int order = 0; order < 7; order++) {
            CHECK.due("order " + order, yard.order(0, 100, 0, 9), order);
        }
        CHECK.on(11, "NONE if there are 7");
        CHECK.due("order(0, 1, 0, 1)", yard.order(0, 1, 0, 1), -1);
        CHECK.due("about(3)", yard.about(3), 7);
        CHECK.refused("order(0, 1, 0, 1)", Yards::full, y -> y.order(0, 1, 0, 1));
        CHECK.on(13, "seven orders as long, as soon due and as dear as can be");
        row(yard, 9 * 100 * 28, 0, 1, 2, 3, 4, 5, 6);
        ends(yard, 100, 200, 300, 400, 500, 600, 700);
        CHECK.on(13, "the same with the longest change before the first");
        HuskYard other = new HuskYard();
        other.change(50);
        for (int order = 0; order < 7; order++) {
            other.order(2, 100, 0, 9);
        }
        row(other, 9 * (100 * 28 + 50 * 7), 0, 1, 2, 3, 4, 5, 6);
        ends(other, 150, 250, 350, 450, 550, 650, 750);
    }

    private static void changeTakesHours() {
        HuskYard yard = new HuskYard();
        yard.order(1, 10, 0, 1);
        CHECK.on(12, "at first 2");
        CHECK.due("late()", yard.late(), 12);
        CHECK.on(12, "50 hours, 0 hours, and all between: true");
        for (int hours = 50; hours >= 0; hours--) {
            CHECK.due("change(" + hours + ")", yard.change(hours), true);
            CHECK.due("late() with " + hours, yard.late(), 10 + hours);
        }
        CHECK.on(12, "another change may make another best");
        HuskYard two = new HuskYard();
        two.order(1, 1, 0, 2);
        two.order(0, 1, 0, 1);
        two.change(0);
        row(two, 2 + 2, 0, 1);
        two.change(1);
        row(two, 2 * 3 + 1, 1, 0);
    }

    private static void changeIsRefused() {
        CHECK.on(12, "false for others");
        for (int hours : new int[] {-1, 51, Integer.MIN_VALUE, Integer.MAX_VALUE}) {
            CHECK.refused("change(" + hours + ")", Yards::busy, y -> y.change(hours) ? 1 : -1);
        }
    }

    private static void lateFromTheDueHour() {
        CHECK.on(13, "no orders: 0");
        CHECK.due("late()", new HuskYard().late(), 0);
        CHECK.on(13, "0 at least: an order that ends before it is due makes up for none");
        HuskYard yard = new HuskYard();
        yard.order(0, 5, 1000, 9);
        row(yard, 0, 0);
        yard.order(0, 5, 0, 1);
        row(yard, 5, 1, 0);
        CHECK.on(13, "an end just at the due hour is not late, one an hour behind is");
        HuskYard just = new HuskYard();
        just.order(0, 7, 7, 3);
        CHECK.due("late()", just.late(), 0);
        just.clear();
        just.order(0, 8, 7, 3);
        CHECK.due("late()", just.late(), 3);
        just.clear();
        just.order(1, 8, 9, 3);
        CHECK.due("late() with the change", just.late(), 3);
    }

    private static void lateByChanges() {
        CHECK.on(13, "at first on sort 0: no change for it");
        HuskYard yard = new HuskYard();
        yard.order(0, 3, 0, 1);
        CHECK.due("late()", yard.late(), 3);
        CHECK.on(13, "the sort stays from one order to the next; back to sort 0 is a change, too");
        HuskYard three = new HuskYard();
        three.order(2, 5, 0, 9);
        three.order(2, 5, 0, 1);
        three.order(0, 5, 1000, 1);
        row(three, 7 * 9 + 12, 0, 1, 2);
        ends(three, 7, 12, 19);
        CHECK.on(13, "like sorts that are apart take two changes");
        HuskYard apart = new HuskYard();
        apart.change(10);
        apart.order(1, 1, 11, 9);
        apart.order(0, 1, 22, 9);
        apart.order(1, 1, 1000, 1);
        row(apart, 0, 0, 1, 2);
        ends(apart, 11, 22, 33);
    }

    private static void lateByWorth() {
        CHECK.on(13, "times worth: the dear one goes first");
        HuskYard yard = new HuskYard();
        yard.order(0, 10, 10, 1);
        yard.order(0, 10, 10, 9);
        row(yard, 10, 1, 0);
        ends(yard, 10, 20);
        CHECK.on(13, "the least sum, not the least of one");
        HuskYard sum = new HuskYard();
        sum.order(0, 100, 0, 9);
        sum.order(0, 10, 0, 1);
        sum.order(0, 10, 0, 1);
        row(sum, 10 + 20 + 9 * 120, 1, 2, 0);
    }

    private static void theBestIsTheFirstOfLikeOnes() {
        CHECK.on(14, "of like ones the first by numbers");
        HuskYard yard = new HuskYard();
        yard.order(3, 9, 1000, 1);
        yard.order(1, 8, 1000, 2);
        yard.order(0, 7, 1000, 3);
        row(yard, 0, 0, 1, 2);
        CHECK.on(14, "like ones behind one that must go first");
        yard.order(2, 10, 12, 1);
        row(yard, 0, 3, 0, 1, 2);
        CHECK.on(14, "the first place counts before the second");
        HuskYard places = new HuskYard();
        places.order(0, 10, 1000, 1);
        places.order(0, 10, 1000, 1);
        places.order(0, 10, 20, 1);
        row(places, 0, 0, 2, 1);
        CHECK.on(14, "like sums that are late");
        HuskYard late = new HuskYard();
        late.order(0, 2, 0, 2);
        late.order(0, 1, 0, 1);
        row(late, 2 * 2 + 3, 0, 1);
    }

    private static void spunTellsPlaces() {
        CHECK.on(14, "the order and the hour of its end, from place 0 on");
        HuskYard yard = Yards.busy();
        row(yard, 3 * 2 + 15 * 3, 0, 2, 1);
        ends(yard, 15, 20, 45);
        CHECK.on(14, "asked before late(), it is the same");
        CHECK.due("spun(1, 0)", Yards.busy().spun(1, 0), 2);
        CHECK.due("spun(2, 1)", Yards.busy().spun(2, 1), 45);
        CHECK.on(14, "an order more makes another best");
        yard.order(0, 1, 0, 9);
        row(yard, 9 + 4 * 2 + 16 * 3, 3, 0, 2, 1);
        ends(yard, 1, 16, 21, 46);
    }

    private static void spunRefuses() {
        CHECK.on(14, "NONE: no order at all");
        CHECK.due("spun(0, 0)", new HuskYard().spun(0, 0), -1);
        CHECK.due("spun(0, 1)", new HuskYard().spun(0, 1), -1);
        CHECK.on(14, "NONE: no such place");
        for (int what = 0; what <= 1; what++) {
            int asked = what;
            for (int i : new int[] {-1, 3, 7, Integer.MIN_VALUE, Integer.MAX_VALUE}) {
                CHECK.refused("spun(" + i + ", " + what + ")", Yards::busy, y -> y.spun(i, asked));
            }
            CHECK.due("spun(7, " + what + ") of 7", Yards.full().spun(7, what), -1);
        }
        CHECK.on(14, "NONE: no such question");
        for (int what : new int[] {-1, 2, Integer.MIN_VALUE, Integer.MAX_VALUE}) {
            CHECK.refused("spun(0, " + what + ")", Yards::busy, y -> y.spun(0, what));
        }
    }

    private static void clearDropsOrders() {
        CHECK.on(15, "how many there were: none, three, seven");
        CHECK.due("clear() of a new yard", new HuskYard().clear(), 0);
        HuskYard yard = Yards.busy();
        CHECK.due("clear()", yard.clear(), 3);
        HuskYard full = Yards.full();
        CHECK.due("clear()", full.clear(), 7);
        CHECK.on(15, "no orders any more");
        CHECK.due("clear() again", yard.clear(), 0);
        CHECK.due("about(3)", yard.about(3), 0);
        CHECK.due("spun(0, 0)", yard.spun(0, 0), -1);
        CHECK.due("spun(0, 1)", yard.spun(0, 1), -1);
        CHECK.due("late()", yard.late(), 0);
        CHECK.on(15, "the change stays; numbers and hours begin anew, on sort 0");
        CHECK.due("order(0, 3, 0, 2)", yard.order(0, 3, 0, 2), 0);
        CHECK.due("order(1, 3, 0, 1)", yard.order(1, 3, 0, 1), 1);
        row(yard, 3 * 2 + 11, 0, 1);
        ends(yard, 3, 11);
        CHECK.on(15, "then there is room for seven again");
        for (int order = 0; order < 7; order++) {
            CHECK.due("order " + order, full.order(0, 1, 0, 1), order);
        }
        CHECK.due("order(0, 1, 0, 1)", full.order(0, 1, 0, 1), -1);
        CHECK.on(15, "the best that was told before is gone");
        CHECK.due("late() before", full.late(), 28);
        full.clear();
        CHECK.due("late()", full.late(), 0);
        full.order(0, 9, 9, 1);
        row(full, 0, 0, -1);
        CHECK.on(15, "orders alone");
        int[] left = {8, 12, 2, 2, 3, 3, 2, 107, 3, 1};
        for (int what = 0; what < left.length; what++) {
            CHECK.due("about(" + what + ")", yard.about(what), left[what]);
        }
    }
}
