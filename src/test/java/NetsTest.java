/** Promises 2 to 7 and 10: pits, nets, weeks, pulls and floods. */
public final class NetsTest {
    private static final Check CHECK = new Check("NetsTest");

    public static void main(String[] args) {
        salts();
        rates();
        netsComeIn();
        netsAreRefused();
        thereAreTwentyFourNets();
        weeksGoBy();
        weeksEndAtFiveHundred();
        weeksRipenNetsInPitsAlone();
        pullsByPoints();
        pullsByState();
        floods();
        netOfTellsEachThing();
        netOfRefuses();
        weeksUntilRipe();
        noWeeksUntilRipe();
        CHECK.end();
    }

    /** A yard with a net of age 2000 in each pit; the net's number is its pit's. */
    private static HuskYard aNetInEachPit() {
        HuskYard yard = new HuskYard();
        for (int pit = 0; pit < 8; pit++) {
            yard.net(pit, 0, 1, 2000);
        }
        return yard;
    }

    private static void points(HuskYard yard, int... due) {
        for (int net = 0; net < due.length; net++) {
            CHECK.due("netOf(" + net + ", 1)", yard.netOf(net, 1), due[net]);
        }
    }

    private static void states(HuskYard yard, int... due) {
        for (int net = 0; net < due.length; net++) {
            CHECK.due("netOf(" + net + ", 3)", yard.netOf(net, 3), due[net]);
        }
    }

    private static void salts() {
        CHECK.on(2, "at first 0 in each pit");
        HuskYard yard = aNetInEachPit();
        yard.weeks(1);
        points(yard, 1, 1, 1, 1, 1, 1, 1, 1);

        CHECK.on(2, "a salt of a pit: true, from 0 to 9, from pit 0 to 7");
        for (int pit = 0; pit <= 7; pit++) {
            for (int salt = 9; salt >= 0; salt--) {
                CHECK.due("salt(" + pit + ", " + salt + ")", yard.salt(pit, salt), true);
            }
        }

        CHECK.on(2, "the salt is that pit's alone, for the weeks from then on");
        yard.salt(0, 3);
        yard.salt(7, 9);
        yard.weeks(2);
        points(yard, 9, 3, 3, 3, 3, 3, 3, 21);

        CHECK.on(2, "false for others: no such pit");
        for (int pit : new int[] {-1, 8, Integer.MIN_VALUE, Integer.MAX_VALUE}) {
            CHECK.refused("salt(" + pit + ", 0)", Yards::busy, y -> y.salt(pit, 0) ? 1 : -1);
        }
        CHECK.on(2, "false for others: no such salt");
        for (int salt : new int[] {-1, 10, Integer.MIN_VALUE, Integer.MAX_VALUE}) {
            CHECK.refused("salt(0, " + salt + ")", Yards::busy, y -> y.salt(0, salt) ? 1 : -1);
        }
    }

    private static void rates() {
        CHECK.on(3, "at first 1 and the salt");
        HuskYard yard = new HuskYard();
        yard.net(0, 0, 1, 2000);
        int points = 0;
        for (int salt = 0; salt <= 9; salt++) {
            yard.salt(0, salt);
            yard.weeks(1);
            points += 1 + salt;
            CHECK.due("points after salt " + salt, yard.netOf(0, 1), points);
        }

        CHECK.on(3, "true from 0 to 50, of salts from 0 to 9");
        yard = aNetInEachPit();
        for (int salt = 0; salt <= 9; salt++) {
            CHECK.due("ripens(" + salt + ", 50)", yard.ripens(salt, 50), true);
            CHECK.due("ripens(" + salt + ", 0)", yard.ripens(salt, 0), true);
        }
        CHECK.on(3, "0 and 50 points a week, of that salt alone");
        yard.ripens(9, 50);
        yard.ripens(8, 1);
        yard.salt(2, 9);
        yard.salt(3, 8);
        yard.weeks(3);
        points(yard, 0, 0, 150, 3, 0, 0, 0, 0);

        CHECK.on(3, "false for others: no such salt");
        for (int salt : new int[] {-1, 10, Integer.MIN_VALUE, Integer.MAX_VALUE}) {
            CHECK.refused("ripens(" + salt + ", 1)", Yards::busy, y -> y.ripens(salt, 1) ? 1 : -1);
        }
        CHECK.on(3, "false for others: no such points");
        for (int v : new int[] {-1, 51, Integer.MIN_VALUE, Integer.MAX_VALUE}) {
            CHECK.refused("ripens(1, " + v + ")", Yards::busy, y -> y.ripens(1, v) ? 1 : -1);
        }
    }

    private static void netsComeIn() {
        CHECK.on(4, "the least and the greatest of everything");
        HuskYard yard = new HuskYard();
        CHECK.due("net(0, 0, 1, 1)", yard.net(0, 0, 1, 1), 0);
        CHECK.due("net(7, 255, 1000, 2000)", yard.net(7, 255, 1000, 2000), 1);
        CHECK.due("about(1)", yard.about(1), 2);

        CHECK.on(4, "it comes into its pit, without points, at whatever week");
        yard.weeks(100);
        CHECK.due("net(7, 1, 2, 3)", yard.net(7, 1, 2, 3), 2);
        int[] due = {7, 0, 0, 0, 1, 2, -1, 3};
        for (int what = 0; what < due.length; what++) {
            CHECK.due("netOf(2, " + what + ")", yard.netOf(2, what), due[what]);
        }
        CHECK.on(4, "two alike in one pit are two");
        CHECK.due("net(7, 1, 2, 3)", yard.net(7, 1, 2, 3), 3);
        CHECK.on(4, "into a pit that was flooded");
        yard.flood(7);
        CHECK.due("net(7, 1, 2, 3)", yard.net(7, 1, 2, 3), 4);
        states(yard, 0, 2, 2, 2, 0);
        CHECK.on(4, "at the clock's end");
        for (int i = 0; i < 4; i++) {
            yard.weeks(100);
        }
        CHECK.due("net(0, 0, 1, 1)", yard.net(0, 0, 1, 1), 5);
    }

    private static void netsAreRefused() {
        int[] far = {Integer.MIN_VALUE, Integer.MAX_VALUE};
        CHECK.on(4, "NONE for others: no such pit");
        for (int pit : new int[] {-1, 8, far[0], far[1]}) {
            CHECK.refused("net(" + pit + ", 0, 1, 1)", Yards::busy, y -> y.net(pit, 0, 1, 1));
        }
        CHECK.on(4, "NONE for others: no set of 8 marks");
        for (int marks : new int[] {-1, 256, far[0], far[1]}) {
            CHECK.refused("net(0, " + marks + ", 1, 1)", Yards::busy, y -> y.net(0, marks, 1, 1));
        }
        CHECK.on(4, "NONE for others: husks too few, too many");
        for (int husks : new int[] {0, -1, 1001, far[0], far[1]}) {
            CHECK.refused("net(0, 0, " + husks + ", 1)", Yards::busy, y -> y.net(0, 0, husks, 1));
        }
        CHECK.on(4, "NONE for others: an age too small, too great");
        for (int age : new int[] {0, -1, 2001, far[0], far[1]}) {
            CHECK.refused("net(0, 0, 1, " + age + ")", Yards::busy, y -> y.net(0, 0, 1, age));
        }
    }

    private static void thereAreTwentyFourNets() {
        CHECK.on(4, "the numbers 0 to 23");
        HuskYard yard = new HuskYard();
        for (int net = 0; net < 24; net++) {
            CHECK.due("net " + net, yard.net(net % 8, net, 1 + net, 1), net);
        }
        CHECK.on(4, "NONE if there are 24");
        CHECK.due("net(0, 0, 1, 1)", yard.net(0, 0, 1, 1), -1);
        CHECK.due("about(1)", yard.about(1), 24);
        CHECK.due("netOf(23, 5)", yard.netOf(23, 5), 24);
        CHECK.refused("net(0, 0, 1, 1)", Yards::full, y -> y.net(0, 0, 1, 1));

        CHECK.on(4, "nets pulled, afloat and back are still there");
        yard.pull(0);
        yard.flood(1);
        yard.find(17, 0);
        states(yard, 1, 2);
        CHECK.due("netOf(17, 3)", yard.netOf(17, 3), 3);
        CHECK.due("net(0, 0, 1, 1)", yard.net(0, 0, 1, 1), -1);
    }

    private static void weeksGoBy() {
        CHECK.on(5, "1 week, 100 weeks: the clock");
        HuskYard yard = aNetInEachPit();
        CHECK.due("weeks(1)", yard.weeks(1), 1);
        CHECK.due("weeks(100)", yard.weeks(100), 101);
        CHECK.due("about(0)", yard.about(0), 101);
        points(yard, 101);

        CHECK.on(5, "without a net");
        CHECK.due("weeks(3)", new HuskYard().weeks(3), 3);

        CHECK.on(5, "NONE for others: too few, too many");
        for (int n : new int[] {0, -1, -100, 101, Integer.MIN_VALUE, Integer.MAX_VALUE}) {
            CHECK.refused("weeks(" + n + ")", Yards::busy, y -> y.weeks(n));
        }
    }

    private static HuskYard atWeek(int week) {
        HuskYard yard = aNetInEachPit();
        for (int at = 0; at < week; at += 100) {
            yard.weeks(Math.min(100, week - at));
        }
        return yard;
    }

    private static void weeksEndAtFiveHundred() {
        CHECK.on(5, "up to 500");
        CHECK.due("weeks(100) at 400", atWeek(400).weeks(100), 500);
        CHECK.due("weeks(99) at 401", atWeek(401).weeks(99), 500);
        HuskYard end = atWeek(499);
        CHECK.due("weeks(1) at 499", end.weeks(1), 500);
        points(end, 500);

        CHECK.on(5, "NONE beyond 500: no part of the weeks goes by");
        CHECK.refused("weeks(100) at 401", () -> atWeek(401), y -> y.weeks(100));
        CHECK.refused("weeks(2) at 499", () -> atWeek(499), y -> y.weeks(2));
        CHECK.refused("weeks(1) at 500", () -> atWeek(500), y -> y.weeks(1));
        CHECK.refused("weeks(1) of a full yard", Yards::full, y -> y.weeks(1));

        CHECK.on(5, "a clock and weeks that wrap around together");
        CHECK.refused("weeks(MAX) at 500", () -> atWeek(500), y -> y.weeks(Integer.MAX_VALUE));

        CHECK.on(5, "a refused call does not stop the clock");
        HuskYard yard = atWeek(450);
        CHECK.due("weeks(51)", yard.weeks(51), -1);
        CHECK.due("weeks(50)", yard.weeks(50), 500);
        points(yard, 500);
    }

    private static void weeksRipenNetsInPitsAlone() {
        CHECK.on(5, "each net in a pit has more points, no other");
        HuskYard yard = new HuskYard();
        yard.net(0, 1, 1, 100);
        yard.net(1, 2, 1, 100);
        yard.net(2, 4, 1, 100);
        yard.net(2, 8, 1, 100);
        yard.weeks(1);
        yard.pull(0);
        yard.flood(2);
        yard.find(4, 0);
        states(yard, 1, 0, 3, 2);
        yard.weeks(3);
        points(yard, 1, 4, 1, 1);

        CHECK.on(5, "points beyond the age, up to 50 times 500");
        HuskYard fast = new HuskYard();
        fast.ripens(0, 50);
        fast.net(0, 0, 1, 1);
        for (int i = 0; i < 5; i++) {
            fast.weeks(100);
        }
        points(fast, 25000);
    }

    private static void pullsByPoints() {
        CHECK.on(6, "its husks with just the age, with more");
        HuskYard yard = new HuskYard();
        yard.net(0, 1, 1000, 3);
        yard.net(0, 2, 1, 2);
        yard.net(0, 4, 500, 4);
        yard.weeks(3);
        CHECK.due("pull(0)", yard.pull(0), 1000);
        CHECK.due("pull(1)", yard.pull(1), 1);
        CHECK.on(6, "0 with a point less than the age: it is pulled all the same");
        CHECK.due("pull(2)", yard.pull(2), 0);
        states(yard, 1, 1, 1);
        CHECK.due("about(7)", yard.about(7), 1001);
        CHECK.on(6, "a net pulled ripe is still told as ripe, one pulled unripe is not");
        CHECK.due("netOf(0, 2)", yard.netOf(0, 2), 1);
        CHECK.due("netOf(2, 2)", yard.netOf(2, 2), 0);
    }

    private static void pullsByState() {
        HuskYard yard = new HuskYard();
        yard.net(0, 1, 7, 2);
        yard.net(0, 2, 8, 3);
        yard.net(0, 4, 9, 1);
        yard.net(1, 0, 5, 1);
        yard.weeks(2);
        yard.flood(0);
        yard.find(1, 0);
        yard.find(2, 0);
        CHECK.on(6, "one that is back: its husks, 0 if it is not ripe");
        CHECK.due("pull(0)", yard.pull(0), 7);
        CHECK.due("pull(1)", yard.pull(1), 0);
        CHECK.on(6, "NONE: one afloat");
        CHECK.due("pull(2)", yard.pull(2), -1);
        CHECK.due("pull(3)", yard.pull(3), 5);
        CHECK.on(6, "NONE: one pulled before, from a pit or back, ripe or not");
        CHECK.due("pull(0)", yard.pull(0), -1);
        CHECK.due("pull(1)", yard.pull(1), -1);
        CHECK.due("pull(3)", yard.pull(3), -1);
        states(yard, 1, 1, 2, 1);
        CHECK.due("about(7)", yard.about(7), 12);

        CHECK.on(6, "NONE for others: no such net");
        CHECK.refused("pull(0) of a new yard", HuskYard::new, y -> y.pull(0));
        for (int net : new int[] {-1, 12, 24, Integer.MIN_VALUE, Integer.MAX_VALUE}) {
            CHECK.refused("pull(" + net + ")", Yards::busy, y -> y.pull(net));
        }
        CHECK.refused("pull(24) of 24", Yards::full, y -> y.pull(24));
        CHECK.on(6, "a refused pull changes nothing");
        CHECK.refused("pull(7), pulled", Yards::busy, y -> y.pull(7));
        CHECK.refused("pull(10), afloat", Yards::busy, y -> y.pull(10));
    }

    private static void floods() {
        CHECK.on(7, "how many float off, from pit 0 to 7");
        for (int pit = 0; pit <= 7; pit++) {
            HuskYard yard = aNetInEachPit();
            yard.net(pit, 0, 1, 1);
            CHECK.due("flood(" + pit + ")", yard.flood(pit), 2);
            CHECK.due("about(8)", yard.about(8), 2);
            CHECK.due("netOf(" + pit + ", 3)", yard.netOf(pit, 3), 2);
            CHECK.due("netOf(8, 3)", yard.netOf(8, 3), 2);
        }
        CHECK.on(7, "none floats out of an empty pit");
        CHECK.due("flood(0) of a new yard", new HuskYard().flood(0), 0);
        CHECK.on(7, "all 24 float off");
        HuskYard crowd = new HuskYard();
        for (int net = 0; net < 24; net++) {
            crowd.net(6, 0, 1, 1);
        }
        CHECK.due("flood(6)", crowd.flood(6), 24);
        CHECK.due("about(8)", crowd.about(8), 24);

        CHECK.on(7, "pulled ones, ones back and ones afloat before don't float off");
        HuskYard yard = new HuskYard();
        yard.net(3, 1, 1, 1);
        yard.net(3, 2, 1, 1);
        yard.net(4, 4, 1, 1);
        yard.net(3, 8, 1, 1);
        yard.pull(1);
        CHECK.due("flood(3)", yard.flood(3), 2);
        yard.find(1, 0);
        CHECK.due("flood(3) again", yard.flood(3), 0);
        states(yard, 3, 1, 0, 2);
        CHECK.on(7, "a net that came since floats off by the next");
        yard.net(3, 16, 1, 1);
        CHECK.due("flood(3)", yard.flood(3), 1);
        states(yard, 3, 1, 0, 2, 2);

        CHECK.on(7, "NONE: no such pit");
        for (int pit : new int[] {-1, 8, Integer.MIN_VALUE, Integer.MAX_VALUE}) {
            CHECK.refused("flood(" + pit + ")", Yards::busy, y -> y.flood(pit));
        }
    }

    private static void netOfTellsEachThing() {
        CHECK.on(10, "pit, points, ripe, state, marks, husks, find, weeks");
        HuskYard yard = new HuskYard();
        yard.net(0, 0, 1, 1);
        yard.net(5, 200, 321, 6);
        yard.salt(5, 1);
        yard.weeks(2);
        int[] due = {5, 4, 0, 0, 200, 321, -1, 1};
        for (int what = 0; what < due.length; what++) {
            CHECK.due("netOf(1, " + what + ")", yard.netOf(1, what), due[what]);
        }
        CHECK.on(10, "ripe with just the age, and with more");
        yard.weeks(1);
        CHECK.due("netOf(1, 2)", yard.netOf(1, 2), 1);
        yard.weeks(1);
        CHECK.due("netOf(1, 2)", yard.netOf(1, 2), 1);
        CHECK.on(10, "pit, points, ripe, marks and husks stay: afloat, back, pulled");
        yard.flood(5);
        int[] afloat = {5, 8, 1, 2, 200, 321, -1, -1};
        for (int what = 0; what < afloat.length; what++) {
            CHECK.due("afloat: netOf(1, " + what + ")", yard.netOf(1, what), afloat[what]);
        }
        yard.find(200, 0);
        int[] back = {5, 8, 1, 3, 200, 321, 0, -1};
        for (int what = 0; what < back.length; what++) {
            CHECK.due("back: netOf(1, " + what + ")", yard.netOf(1, what), back[what]);
        }
        yard.pull(1);
        int[] pulled = {5, 8, 1, 1, 200, 321, 0, -1};
        for (int what = 0; what < pulled.length; what++) {
            CHECK.due("pulled: netOf(1, " + what + ")", yard.netOf(1, what), pulled[what]);
        }
    }

    private static void netOfRefuses() {
        CHECK.on(10, "NONE for others: no such net");
        for (int what = 0; what <= 7; what++) {
            int asked = what;
            CHECK.due("netOf(0, " + what + ")", new HuskYard().netOf(0, what), -1);
            for (int net : new int[] {-1, 12, 24, Integer.MIN_VALUE, Integer.MAX_VALUE}) {
                CHECK.refused("netOf(" + net + ", " + what + ")", Yards::busy, y -> y.netOf(net, asked));
            }
            CHECK.due("netOf(24, " + what + ") of 24", Yards.full().netOf(24, what), -1);
        }
        CHECK.on(10, "NONE for others: no such question");
        for (int what : new int[] {-1, 8, Integer.MIN_VALUE, Integer.MAX_VALUE}) {
            CHECK.refused("netOf(0, " + what + ")", Yards::busy, y -> y.netOf(0, what));
        }
    }

    private static void weeksUntilRipe() {
        HuskYard yard = new HuskYard();
        yard.net(0, 0, 1, 10);
        yard.net(1, 0, 1, 2000);
        CHECK.on(10, "weeks that end just at the age, that go beyond it, that fall short by a point");
        yard.ripens(0, 5);
        CHECK.due("10 points by 5", yard.netOf(0, 7), 2);
        yard.ripens(0, 3);
        CHECK.due("10 points by 3", yard.netOf(0, 7), 4);
        yard.ripens(0, 9);
        CHECK.due("10 points by 9", yard.netOf(0, 7), 2);
        yard.ripens(0, 50);
        CHECK.due("10 points by 50", yard.netOf(0, 7), 1);
        CHECK.on(10, "where it lies: by the salt that its pit has now");
        yard.salt(0, 4);
        CHECK.due("10 points by 5", yard.netOf(0, 7), 2);
        CHECK.due("2000 points by 50", yard.netOf(1, 7), 40);
        CHECK.on(10, "more weeks than the clock has left are told too");
        yard.ripens(0, 1);
        CHECK.due("2000 points by 1", yard.netOf(1, 7), 2000);
        CHECK.on(10, "weeks that went by are taken off");
        yard.weeks(1);
        CHECK.due("5 of 10 points by 5", yard.netOf(0, 7), 1);
        CHECK.on(10, "0 for one that is ripe, with just the age, with more, by 0 points a week");
        yard.weeks(1);
        CHECK.due("10 of 10 points", yard.netOf(0, 7), 0);
        yard.weeks(1);
        CHECK.due("15 of 10 points", yard.netOf(0, 7), 0);
        yard.ripens(4, 0);
        CHECK.due("15 of 10 points by 0", yard.netOf(0, 7), 0);
    }

    private static void noWeeksUntilRipe() {
        HuskYard yard = new HuskYard();
        yard.net(0, 1, 1, 10);
        yard.net(1, 2, 1, 10);
        yard.weeks(9);
        CHECK.on(10, "NONE: never, if only by a point");
        yard.ripens(0, 0);
        CHECK.due("9 of 10 points by 0", yard.netOf(0, 7), -1);
        yard.ripens(0, 1);
        CHECK.on(10, "NONE: it isn't in: afloat, back, pulled");
        yard.flood(0);
        CHECK.due("afloat", yard.netOf(0, 7), -1);
        yard.find(1, 0);
        CHECK.due("back", yard.netOf(0, 7), -1);
        yard.pull(0);
        CHECK.due("pulled", yard.netOf(0, 7), -1);
        CHECK.on(10, "NONE: one that isn't in, ripe as it is");
        yard.weeks(1);
        yard.flood(1);
        CHECK.due("afloat and ripe", yard.netOf(1, 7), -1);
    }
}
