/** Promise 1 (a new object) and promise 24 (about). */
public final class NewYardTest {
    private static final Check CHECK = new Check("NewYardTest");

    public static void main(String[] args) {
        aNewYardIsEmpty();
        aNewYardAnswersNothing();
        yardsAreApart();
        aboutCounts();
        aboutCountsHusks();
        aboutCountsUpToTheLimits();
        aboutRefuses();
        CHECK.end();
    }

    private static void abouts(HuskYard yard, int... due) {
        for (int what = 0; what < due.length; what++) {
            CHECK.due("about(" + what + ")", yard.about(what), due[what]);
        }
    }

    private static void aNewYardIsEmpty() {
        CHECK.on(1, "no nets, finds, orders, rolls, cuts, readings; week 0");
        abouts(new HuskYard(), 0, 0, 0, 0, 0, 0, 0, 0, 0, 0);
        CHECK.on(1, "the constant");
        CHECK.due("NONE", HuskYard.NONE, -1);
        CHECK.on(1, "the numbers begin at 0, readings at 1, weeks at 1");
        HuskYard yard = new HuskYard();
        CHECK.due("net(0, 0, 1, 1)", yard.net(0, 0, 1, 1), 0);
        CHECK.due("flood(0)", yard.flood(0), 1);
        CHECK.due("find(0, 0)", yard.find(0, 0), 0);
        CHECK.due("order(0, 1, 0, 1)", yard.order(0, 1, 0, 1), 0);
        CHECK.due("roll(1, 0)", yard.roll(1, 0), 0);
        CHECK.due("cut(1, 0)", yard.cut(1, 0), 0);
        CHECK.due("reading(1, 1)", yard.reading(1, 1), 1);
        CHECK.due("weeks(1)", yard.weeks(1), 1);
    }

    private static void aNewYardAnswersNothing() {
        CHECK.on(1, "what each part answers without anything in it");
        HuskYard yard = new HuskYard();
        CHECK.due("netOf(0, 0)", yard.netOf(0, 0), -1);
        CHECK.due("netOf(0, 6)", yard.netOf(0, 6), -1);
        CHECK.due("found(0, 0)", yard.found(0, 0), -1);
        CHECK.due("found(0, 1)", yard.found(0, 1), -1);
        CHECK.due("pull(0)", yard.pull(0), -1);
        CHECK.due("flood(0)", yard.flood(0), 0);
        CHECK.due("late()", yard.late(), 0);
        CHECK.due("spun(0, 0)", yard.spun(0, 0), -1);
        CHECK.due("clear()", yard.clear(), 0);
        CHECK.due("opened()", yard.opened(), 0);
        CHECK.due("from(0)", yard.from(0), -1);
        CHECK.due("away()", yard.away(), 0);
        CHECK.due("errs(false)", yard.errs(false), -200);
        CHECK.due("errs(true)", yard.errs(true), 200);
    }

    private static void yardsAreApart() {
        CHECK.on(1, "a new object has nothing of another's");
        HuskYard one = Yards.busy();
        HuskYard other = new HuskYard();
        abouts(other, 0, 0, 0, 0, 0, 0, 0, 0, 0, 0);
        other.net(4, 1, 1, 90);
        CHECK.due("the other's salt and rate", other.netOf(0, 7), 90);
        other.order(1, 1, 0, 1);
        CHECK.due("the other's change", other.late(), 3);
        CHECK.due("the other's error", other.errs(false), -200);
        CHECK.due("the one's nets", one.about(1), 12);
    }

    private static void aboutCounts() {
        CHECK.on(24, "each count is told under its own number");
        HuskYard yard = new HuskYard();
        yard.net(0, 1, 300, 5);
        yard.net(0, 2, 40, 500);
        yard.net(1, 4, 1, 1);
        yard.net(2, 8, 2, 2);
        yard.weeks(5);
        yard.flood(0);
        yard.flood(2);
        yard.find(1, 0);
        yard.order(0, 1, 0, 1);
        yard.order(0, 1, 0, 1);
        for (int i = 0; i < 3; i++) {
            yard.roll(1, 0);
        }
        for (int i = 0; i < 5; i++) {
            yard.cut(1, 0);
        }
        for (int i = 0; i < 6; i++) {
            yard.reading(10, 10);
        }
        abouts(yard, 5, 4, 1, 2, 3, 5, 6, 0, 2, 1);
        CHECK.on(24, "pulled nets are nets still, back no more; cleared things are gone");
        yard.pull(0);
        yard.pull(2);
        yard.clear();
        yard.away();
        abouts(yard, 5, 4, 1, 0, 0, 0, 6, 301, 2, 0);
    }

    private static void aboutCountsHusks() {
        CHECK.on(24, "husks pulled ripe, from pits and back; not those pulled unripe");
        HuskYard yard = new HuskYard();
        yard.net(0, 1, 1, 2);
        yard.net(0, 2, 10, 3);
        yard.net(1, 4, 100, 2);
        yard.net(1, 8, 1000, 3);
        yard.weeks(2);
        yard.flood(1);
        yard.find(4, 0);
        yard.find(8, 0);
        int[] due = {1, 1, 101, 101};
        for (int net = 0; net < 4; net++) {
            yard.pull(net);
            CHECK.due("about(7) after pull(" + net + ")", yard.about(7), due[net]);
        }
        CHECK.on(24, "husks are counted once");
        for (int net = 0; net < 4; net++) {
            yard.pull(net);
        }
        CHECK.due("about(7)", yard.about(7), 101);
    }

    private static void aboutCountsUpToTheLimits() {
        CHECK.on(24, "all counts at their limits");
        abouts(Yards.full(), 500, 24, 8, 7, 6, 8, 20, 107);
        CHECK.on(24, "24 nets of 1000 husks");
        HuskYard yard = new HuskYard();
        for (int net = 0; net < 24; net++) {
            yard.net(net % 8, 0, 1000, 1);
        }
        yard.weeks(1);
        for (int net = 0; net < 24; net++) {
            yard.pull(net);
        }
        CHECK.due("about(7)", yard.about(7), 24000);
        CHECK.on(24, "nets afloat and back: none of those in or pulled");
        CHECK.due("about(8)", yard.about(8), 0);
        CHECK.due("about(9)", yard.about(9), 0);
    }

    private static void aboutRefuses() {
        CHECK.on(24, "NONE for others");
        for (int what : new int[] {-1, 10, Integer.MIN_VALUE, Integer.MAX_VALUE}) {
            CHECK.refused("about(" + what + ")", Yards::busy, y -> y.about(what));
            CHECK.due("about(" + what + ") of a new yard", new HuskYard().about(what), -1);
        }
    }
}
