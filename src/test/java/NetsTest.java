/** Promises 2 to 7 and 10: pits, nets, weeks, pulls and floods. */
public final class NetsTest {
    private static final Check CHECK = new Check("NetsTest");

    public static void main(String[] args) {
        saltTakesPitsAndSaltsAlone();
        ripensTakesSaltsAndPointsAlone();
        atFirstASaltRipensByOneAndSalt();
        netTakesWhatTheTermsAllow();
        thereAreTwentyFourNets();
        weeksGoByUpToFiveHundred();
        weeksRipenOnlyNetsInPits();
        pullGivesHusksOfRipeOnes();
        floodTakesTheNetsInThePit();
        netOfTellsEachThing();
        weeksUntilRipe();
        CHECK.end();
    }

    private static void saltTakesPitsAndSaltsAlone() {
        HuskYard yard = new HuskYard();
        CHECK.due("salt(0, 0)", yard.salt(0, 0), true);
        CHECK.due("salt(7, 9)", yard.salt(7, 9), true);
        CHECK.due("salt(-1, 0)", yard.salt(-1, 0), false);
        CHECK.due("salt(8, 0)", yard.salt(8, 0), false);
        CHECK.due("salt(0, -1)", yard.salt(0, -1), false);
        CHECK.due("salt(7, 10)", yard.salt(7, 10), false);
        yard.net(7, 0, 1, 2000);
        yard.net(6, 0, 1, 2000);
        yard.weeks(1);
        CHECK.due("points by salt 9", yard.netOf(0, 1), 10);
        CHECK.due("points by salt 0", yard.netOf(1, 1), 1);
    }

    private static void ripensTakesSaltsAndPointsAlone() {
        HuskYard yard = new HuskYard();
        CHECK.due("ripens(0, 50)", yard.ripens(0, 50), true);
        CHECK.due("ripens(9, 0)", yard.ripens(9, 0), true);
        CHECK.due("ripens(-1, 1)", yard.ripens(-1, 1), false);
        CHECK.due("ripens(10, 1)", yard.ripens(10, 1), false);
        CHECK.due("ripens(0, -1)", yard.ripens(0, -1), false);
        CHECK.due("ripens(0, 51)", yard.ripens(0, 51), false);
        yard.salt(3, 9);
        yard.net(0, 0, 1, 1);
        yard.net(3, 0, 1, 1);
        yard.weeks(2);
        CHECK.due("points by 50 a week", yard.netOf(0, 1), 100);
        CHECK.due("points by 0 a week", yard.netOf(1, 1), 0);
    }

    private static void atFirstASaltRipensByOneAndSalt() {
        HuskYard yard = new HuskYard();
        yard.net(0, 0, 1, 2000);
        int points = 0;
        for (int salt = 0; salt <= 9; salt++) {
            yard.salt(0, salt);
            yard.weeks(1);
            points += 1 + salt;
            CHECK.due("points after salt " + salt, yard.netOf(0, 1), points);
        }
    }

    private static void netTakesWhatTheTermsAllow() {
        HuskYard yard = new HuskYard();
        CHECK.due("net(-1, 0, 1, 1)", yard.net(-1, 0, 1, 1), -1);
        CHECK.due("net(8, 0, 1, 1)", yard.net(8, 0, 1, 1), -1);
        CHECK.due("net(0, -1, 1, 1)", yard.net(0, -1, 1, 1), -1);
        CHECK.due("net(0, 256, 1, 1)", yard.net(0, 256, 1, 1), -1);
        CHECK.due("net(0, 0, 0, 1)", yard.net(0, 0, 0, 1), -1);
        CHECK.due("net(0, 0, 1001, 1)", yard.net(0, 0, 1001, 1), -1);
        CHECK.due("net(0, 0, 1, 0)", yard.net(0, 0, 1, 0), -1);
        CHECK.due("net(0, 0, 1, 2001)", yard.net(0, 0, 1, 2001), -1);
        CHECK.due("about(1)", yard.about(1), 0);
        CHECK.due("net(0, 0, 1, 1)", yard.net(0, 0, 1, 1), 0);
        CHECK.due("net(7, 255, 1000, 2000)", yard.net(7, 255, 1000, 2000), 1);
    }

    private static void thereAreTwentyFourNets() {
        HuskYard yard = new HuskYard();
        for (int net = 0; net < 24; net++) {
            CHECK.due("net " + net, yard.net(net % 8, net, 1 + net, 1), net);
        }
        CHECK.due("the 25th net", yard.net(0, 0, 1, 1), -1);
        yard.pull(0);
        CHECK.due("a pulled net keeps its number", yard.net(0, 0, 1, 1), -1);
        CHECK.due("about(1)", yard.about(1), 24);
        CHECK.due("netOf(23, 5)", yard.netOf(23, 5), 24);
        CHECK.due("netOf(24, 5)", yard.netOf(24, 5), -1);
    }

    private static void weeksGoByUpToFiveHundred() {
        HuskYard yard = new HuskYard();
        yard.net(0, 0, 1, 2000);
        CHECK.due("weeks(0)", yard.weeks(0), -1);
        CHECK.due("weeks(-1)", yard.weeks(-1), -1);
        CHECK.due("weeks(101)", yard.weeks(101), -1);
        CHECK.due("weeks(MAX)", yard.weeks(Integer.MAX_VALUE), -1);
        for (int hundred = 1; hundred <= 4; hundred++) {
            CHECK.due("weeks(100)", yard.weeks(100), hundred * 100);
        }
        CHECK.due("weeks(1)", yard.weeks(1), 401);
        CHECK.due("weeks(100) beyond 500", yard.weeks(100), -1);
        CHECK.due("the clock stands", yard.about(0), 401);
        CHECK.due("the points stand", yard.netOf(0, 1), 401);
        CHECK.due("weeks(99)", yard.weeks(99), 500);
        CHECK.due("weeks(1) beyond 500", yard.weeks(1), -1);
        CHECK.due("points at the end", yard.netOf(0, 1), 500);
    }

    private static void weeksRipenOnlyNetsInPits() {
        HuskYard yard = new HuskYard();
        yard.net(0, 1, 1, 100);
        yard.net(1, 2, 1, 100);
        yard.net(2, 4, 1, 100);
        yard.net(2, 8, 1, 100);
        yard.weeks(1);
        yard.pull(0);
        yard.flood(2);
        yard.find(4, 0);
        yard.weeks(3);
        CHECK.due("pulled", yard.netOf(0, 1), 1);
        CHECK.due("in", yard.netOf(1, 1), 4);
        CHECK.due("back", yard.netOf(2, 1), 1);
        CHECK.due("afloat", yard.netOf(3, 1), 1);
    }

    private static void pullGivesHusksOfRipeOnes() {
        HuskYard yard = new HuskYard();
        yard.net(0, 1, 1000, 3);
        yard.net(0, 2, 500, 4);
        yard.weeks(3);
        CHECK.due("pull(-1)", yard.pull(-1), -1);
        CHECK.due("pull(2)", yard.pull(2), -1);
        CHECK.due("pull(0) just ripe", yard.pull(0), 1000);
        CHECK.due("pull(1) not ripe by one point", yard.pull(1), 0);
        CHECK.due("pull(0) again", yard.pull(0), -1);
        CHECK.due("netOf(1, 3)", yard.netOf(1, 3), 1);
        CHECK.due("about(7)", yard.about(7), 1000);
        yard.net(1, 1, 7, 1);
        yard.weeks(1);
        yard.flood(1);
        CHECK.due("pull(2) afloat", yard.pull(2), -1);
        yard.find(0, 0);
        CHECK.due("pull(2) back", yard.pull(2), 7);
        CHECK.due("about(7)", yard.about(7), 1007);
    }

    private static void floodTakesTheNetsInThePit() {
        HuskYard yard = new HuskYard();
        yard.net(3, 1, 1, 1);
        yard.net(3, 2, 1, 1);
        yard.net(4, 4, 1, 1);
        yard.net(3, 8, 1, 1);
        yard.pull(1);
        CHECK.due("flood(-1)", yard.flood(-1), -1);
        CHECK.due("flood(8)", yard.flood(8), -1);
        CHECK.due("flood(7)", yard.flood(7), 0);
        CHECK.due("flood(3)", yard.flood(3), 2);
        CHECK.due("flood(3) again", yard.flood(3), 0);
        yard.find(1, 0);
        CHECK.due("flood(3), one back", yard.flood(3), 0);
        int[] states = {3, 1, 0, 2};
        for (int net = 0; net < states.length; net++) {
            CHECK.due("state of " + net, yard.netOf(net, 3), states[net]);
        }
    }

    private static void netOfTellsEachThing() {
        HuskYard yard = new HuskYard();
        yard.net(0, 0, 1, 1);
        yard.net(5, 200, 321, 6);
        yard.salt(5, 1);
        yard.weeks(2);
        int[] due = {5, 4, 0, 0, 200, 321, -1, 1};
        for (int what = 0; what < due.length; what++) {
            CHECK.due("netOf(1, " + what + ")", yard.netOf(1, what), due[what]);
        }
        yard.weeks(1);
        CHECK.due("netOf(1, 2) just ripe", yard.netOf(1, 2), 1);
        CHECK.due("netOf(1, 8)", yard.netOf(1, 8), -1);
        CHECK.due("netOf(1, -1)", yard.netOf(1, -1), -1);
        CHECK.due("netOf(-1, 0)", yard.netOf(-1, 0), -1);
        CHECK.due("netOf(2, 0)", yard.netOf(2, 0), -1);
        CHECK.due("netOf(2, 6)", yard.netOf(2, 6), -1);
        CHECK.due("netOf(-1, 6)", yard.netOf(-1, 6), -1);
        yard.flood(5);
        yard.weeks(1);
        CHECK.due("its pit is told afloat too", yard.netOf(1, 0), 5);
        CHECK.due("its points stay", yard.netOf(1, 1), 6);
        CHECK.due("it is ripe afloat too", yard.netOf(1, 2), 1);
    }

    private static void weeksUntilRipe() {
        HuskYard yard = new HuskYard();
        yard.net(0, 0, 1, 10);
        yard.net(1, 0, 1, 2000);
        yard.ripens(0, 3);
        CHECK.due("10 points by 3", yard.netOf(0, 7), 4);
        yard.ripens(0, 5);
        CHECK.due("10 points by 5", yard.netOf(0, 7), 2);
        yard.ripens(0, 0);
        CHECK.due("never", yard.netOf(0, 7), -1);
        yard.ripens(0, 1);
        CHECK.due("longer than the clock goes", yard.netOf(1, 7), 2000);
        yard.weeks(10);
        yard.ripens(0, 0);
        CHECK.due("ripe already", yard.netOf(0, 7), 0);
        yard.pull(0);
        CHECK.due("pulled", yard.netOf(0, 7), -1);
        yard.flood(1);
        CHECK.due("afloat", yard.netOf(1, 7), -1);
        yard.find(0, 0);
        CHECK.due("back", yard.netOf(1, 7), -1);
    }
}
