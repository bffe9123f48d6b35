/** Promises 16 to 20: rolls, cuts and the least lay. */
public final class MatsTest {
    private static final Check CHECK = new Check("MatsTest");

    public static void main(String[] args) {
        rollsAreTaken();
        rollsAreRefused();
        cutsAreTaken();
        cutsAreRefused();
        openedWithoutCuts();
        openedByLengths();
        openedByLots();
        oneMatAloneInItsLot();
        withoutALay();
        theLeastOpened();
        ofLikeLaysTheLowerRollFirst();
        fromRefuses();
        awayDropsAll();
        CHECK.end();
    }

    private static HuskYard rolls(int lot, int... lengths) {
        HuskYard yard = new HuskYard();
        for (int length : lengths) {
            yard.roll(length, lot);
        }
        return yard;
    }

    private static void cuts(HuskYard yard, int mat, int... lengths) {
        for (int length : lengths) {
            yard.cut(length, mat);
        }
    }

    private static void lay(HuskYard yard, int opened, int... due) {
        CHECK.due("opened()", yard.opened(), opened);
        for (int cut = 0; cut < due.length; cut++) {
            CHECK.due("from(" + cut + ")", yard.from(cut), due[cut]);
        }
    }

    private static void rollsAreTaken() {
        CHECK.on(16, "the least and the greatest of everything");
        HuskYard yard = new HuskYard();
        CHECK.due("roll(1, 0)", yard.roll(1, 0), 0);
        CHECK.due("roll(1000, 2)", yard.roll(1000, 2), 1);
        CHECK.due("about(4)", yard.about(4), 2);
        CHECK.on(16, "two alike are two");
        CHECK.due("roll(1, 0)", yard.roll(1, 0), 2);
        CHECK.on(16, "the numbers 0 to 5");
        for (int roll = 3; roll < 6; roll++) {
            CHECK.due("roll " + roll, yard.roll(10 + roll, 1), roll);
        }
        CHECK.on(16, "NONE if there are 6");
        CHECK.due("roll(1, 0)", yard.roll(1, 0), -1);
        CHECK.due("about(4)", yard.about(4), 6);
        CHECK.refused("roll(1, 0)", Yards::full, y -> y.roll(1, 0));
    }

    private static void rollsAreRefused() {
        CHECK.on(16, "NONE for others: too short, too long");
        for (int length : new int[] {0, -1, 1001, Integer.MIN_VALUE, Integer.MAX_VALUE}) {
            CHECK.refused("roll(" + length + ", 0)", Yards::busy, y -> y.roll(length, 0));
        }
        CHECK.on(16, "NONE for others: no such lot");
        for (int lot : new int[] {-1, 3, Integer.MIN_VALUE, Integer.MAX_VALUE}) {
            CHECK.refused("roll(1, " + lot + ")", Yards::busy, y -> y.roll(1, lot));
        }
    }

    private static void cutsAreTaken() {
        CHECK.on(17, "the least and the greatest of everything");
        HuskYard yard = rolls(1, 1000);
        CHECK.due("cut(1, 0)", yard.cut(1, 0), 0);
        CHECK.due("cut(500, 3)", yard.cut(500, 3), 1);
        CHECK.due("about(5)", yard.about(5), 2);
        lay(yard, 1000, 0, 0);
        CHECK.on(17, "the numbers 0 to 7");
        for (int cut = 2; cut < 8; cut++) {
            CHECK.due("cut " + cut, yard.cut(1, cut % 4), cut);
        }
        CHECK.on(17, "NONE if there are 8");
        CHECK.due("cut(1, 0)", yard.cut(1, 0), -1);
        CHECK.due("about(5)", yard.about(5), 8);
        lay(yard, 1000, 0, 0, 0, 0, 0, 0, 0, 0, -1);
        CHECK.refused("cut(1, 0)", Yards::full, y -> y.cut(1, 0));
    }

    private static void cutsAreRefused() {
        CHECK.on(17, "NONE for others: too short, too long");
        for (int length : new int[] {0, -1, 501, Integer.MIN_VALUE, Integer.MAX_VALUE}) {
            CHECK.refused("cut(" + length + ", 0)", Yards::busy, y -> y.cut(length, 0));
        }
        CHECK.on(17, "NONE for others: no such mat");
        for (int mat : new int[] {-1, 4, Integer.MIN_VALUE, Integer.MAX_VALUE}) {
            CHECK.refused("cut(1, " + mat + ")", Yards::busy, y -> y.cut(1, mat));
        }
    }

    private static void openedWithoutCuts() {
        CHECK.on(18, "no cuts, no rolls: nothing is opened");
        lay(new HuskYard(), 0, -1);
        CHECK.on(18, "no cuts: no roll is opened");
        lay(rolls(0, 1, 1000, 5, 5, 5, 5), 0, -1);
    }

    private static void openedByLengths() {
        CHECK.on(18, "of a roll just its length");
        HuskYard yard = rolls(0, 10, 9);
        cuts(yard, 0, 5, 5);
        lay(yard, 10, 0, 0);
        CHECK.on(18, "of a roll no more than its length");
        cuts(yard, 0, 1);
        lay(yard, 19, 0, 0, 1);
        cuts(yard, 0, 9);
        lay(yard, -1, -1, -1, -1, -1);
        CHECK.on(18, "the whole length of an opened roll counts, once");
        HuskYard once = rolls(0, 10, 9);
        cuts(once, 0, 1, 9);
        lay(once, 10, 0, 0);
        CHECK.on(18, "eight cuts that fill four rolls of six");
        HuskYard eight = rolls(2, 1000, 1000, 1000, 1000, 1000, 1000);
        cuts(eight, 3, 500, 500, 500, 500, 500, 500, 500, 500);
        lay(eight, 4000, 0, 0, 1, 1, 2, 2, 3, 3);
        CHECK.on(18, "all six rolls opened, and a cut that finds no room");
        HuskYard six = rolls(0, 999, 999, 999, 999, 999, 999);
        cuts(six, 0, 500, 500, 500, 500, 500, 500);
        lay(six, 5994, 0, 1, 2, 3, 4, 5);
        cuts(six, 0, 500);
        lay(six, -1, -1, -1, -1, -1, -1, -1, -1);
    }

    private static void openedByLots() {
        CHECK.on(18, "all cuts of a mat out of rolls of one lot");
        HuskYard yard = rolls(0, 10);
        yard.roll(10, 1);
        cuts(yard, 2, 10, 10);
        lay(yard, -1, -1, -1);
        yard.roll(300, 1);
        lay(yard, 300, 2, 2);
        CHECK.on(18, "of one lot, not of one roll");
        yard.roll(10, 0);
        lay(yard, 20, 0, 3);
        CHECK.on(18, "another mat may be of another lot, or of the same");
        cuts(yard, 1, 10);
        lay(yard, 30, 0, 3, 1);
        HuskYard same = rolls(0, 20);
        cuts(same, 0, 10);
        cuts(same, 3, 10);
        lay(same, 20, 0, 0);
        CHECK.on(18, "four mats in three lots");
        HuskYard four = new HuskYard();
        four.roll(10, 2);
        four.roll(10, 1);
        four.roll(25, 0);
        for (int mat = 3; mat >= 0; mat--) {
            cuts(four, mat, 10);
        }
        lay(four, 45, 0, 1, 2, 2);
        CHECK.on(18, "a mat that binds a later cut, of another mat between");
        HuskYard bound = new HuskYard();
        bound.roll(10, 0);
        bound.roll(10, 1);
        bound.roll(11, 1);
        cuts(bound, 0, 10);
        cuts(bound, 1, 10);
        cuts(bound, 0, 10);
        lay(bound, 31, 1, 0, 2);
    }

    private static void oneMatAloneInItsLot() {
        CHECK.on(18, "whichever mat alone in whichever lot, the three others in another");
        for (int mat = 0; mat < 4; mat++) {
            for (int lots = 0; lots < 9; lots++) {
                HuskYard yard = rolls(lots / 3, 10);
                yard.roll(30, lots % 3);
                for (int next = 0; next < 4; next++) {
                    cuts(yard, (mat + next) % 4, 10);
                }
                lay(yard, 40, 0, 1, 1, 1);
            }
        }
    }

    private static void withoutALay() {
        CHECK.on(18, "NONE: cuts and no roll");
        HuskYard yard = new HuskYard();
        yard.cut(1, 0);
        lay(yard, -1, -1);
        CHECK.on(18, "a roll more and there is a lay");
        yard.roll(1, 0);
        lay(yard, 1, 0);
        CHECK.on(18, "NONE: a cut longer than each roll");
        yard.cut(500, 3);
        yard.roll(499, 0);
        lay(yard, -1, -1, -1);
        yard.roll(500, 0);
        lay(yard, 501, 0, 2);
        CHECK.on(18, "NONE: a cut is not sewn of two rolls");
        HuskYard sewn = rolls(0, 10, 10);
        cuts(sewn, 0, 20);
        lay(sewn, -1, -1);
        CHECK.on(18, "NONE: long enough together, but not by parts");
        HuskYard parts = rolls(0, 10, 10);
        cuts(parts, 0, 6, 6, 6);
        lay(parts, -1, -1, -1, -1);
    }

    private static void theLeastOpened() {
        CHECK.on(18, "the least may need more rolls, and higher ones");
        HuskYard yard = new HuskYard();
        yard.roll(1000, 0);
        for (int roll = 1; roll < 6; roll++) {
            yard.roll(100 + roll, 1);
        }
        cuts(yard, 0, 50, 50, 50, 50, 50, 50, 50, 50);
        lay(yard, 410, 1, 1, 2, 2, 3, 3, 4, 4);
        CHECK.on(18, "the least by a single unit");
        HuskYard unit = rolls(0, 500, 499);
        cuts(unit, 0, 499);
        lay(unit, 499, 1);
        CHECK.on(18, "two mats share a lot where that opens less");
        HuskYard busy = Yards.busy();
        lay(busy, 130, 2, 1, 1);
    }

    private static void ofLikeLaysTheLowerRollFirst() {
        CHECK.on(19, "of like ones the lower roll first");
        HuskYard yard = rolls(0, 10);
        yard.roll(10, 1);
        yard.roll(20, 2);
        cuts(yard, 0, 10);
        cuts(yard, 1, 10);
        lay(yard, 20, 0, 1);
        CHECK.on(19, "the first cut counts before the second");
        cuts(yard, 2, 1);
        lay(yard, 30, 0, 2, 2);
        CHECK.on(19, "rolls alike: the lowest, also for what fits beside");
        HuskYard alike = rolls(1, 10, 10, 10);
        cuts(alike, 0, 6, 6, 4, 4);
        lay(alike, 20, 0, 1, 0, 1);
        CHECK.on(19, "the lower roll only where the rest still opens the least");
        HuskYard rest = rolls(0, 10, 6, 4);
        cuts(rest, 0, 4, 6);
        lay(rest, 10, 0, 0);
        HuskYard high = rolls(0, 6, 4, 10);
        cuts(high, 0, 4, 6);
        lay(high, 10, 1, 0);
    }

    private static void fromRefuses() {
        CHECK.on(19, "NONE for others: no such cut");
        for (int cut : new int[] {-1, 3, 8, Integer.MIN_VALUE, Integer.MAX_VALUE}) {
            CHECK.refused("from(" + cut + ")", Yards::busy, y -> y.from(cut));
        }
        CHECK.due("from(8) of 8", Yards.full().from(8), -1);
        CHECK.on(19, "NONE without: no lay for any cut, though one could lie alone");
        HuskYard yard = rolls(0, 10);
        cuts(yard, 0, 10, 1);
        CHECK.due("from(0)", yard.from(0), -1);
        CHECK.due("from(1)", yard.from(1), -1);
        CHECK.on(19, "asked before opened(), it is the same");
        CHECK.due("from(0)", Yards.busy().from(0), 2);
    }

    private static void awayDropsAll() {
        CHECK.on(20, "how many cuts there were: none, rolls alone, three, eight");
        CHECK.due("away() of a new yard", new HuskYard().away(), 0);
        HuskYard rolls = rolls(0, 10, 20);
        CHECK.due("away()", rolls.away(), 0);
        HuskYard yard = Yards.busy();
        CHECK.due("away()", yard.away(), 3);
        HuskYard full = Yards.full();
        CHECK.due("away()", full.away(), 8);
        CHECK.on(20, "no rolls, no cuts any more");
        CHECK.due("about(4), rolls alone", rolls.about(4), 0);
        CHECK.due("about(4)", yard.about(4), 0);
        CHECK.due("about(5)", yard.about(5), 0);
        CHECK.due("away() again", yard.away(), 0);
        lay(yard, 0, -1);
        CHECK.on(20, "numbers begin anew");
        CHECK.due("cut(4, 1)", yard.cut(4, 1), 0);
        lay(yard, -1, -1);
        CHECK.due("roll(5, 1)", yard.roll(5, 1), 0);
        lay(yard, 5, 0, -1);
        CHECK.on(20, "then there is room for six and eight again");
        for (int roll = 0; roll < 6; roll++) {
            CHECK.due("roll " + roll, full.roll(10, 0), roll);
        }
        for (int cut = 0; cut < 8; cut++) {
            CHECK.due("cut " + cut, full.cut(1, 0), cut);
        }
        CHECK.due("roll(10, 0)", full.roll(10, 0), -1);
        CHECK.due("cut(1, 0)", full.cut(1, 0), -1);
        CHECK.on(20, "the lay that was told before is gone");
        lay(full, 10, 0, 0, 0, 0, 0, 0, 0, 0);
        full.away();
        lay(full, 0, -1);
        CHECK.on(20, "rolls and cuts alone");
        int[] left = {8, 12, 2, 3, 1, 1, 2, 107, 3, 1};
        for (int what = 0; what < left.length; what++) {
            CHECK.due("about(" + what + ")", yard.about(what), left[what]);
        }
    }
}
