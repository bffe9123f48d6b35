/** Promises 8 and 9, and what 6 of promise 10: finds, what they fit and what they are sure of. */
public final class FindsTest {
    private static final Check CHECK = new Check("FindsTest");

    public static void main(String[] args) {
        findTakesTwoSetsApart();
        aFindFitsByMarks();
        aFindFitsWhatWasAfloatAsItWasTold();
        threeFindsForThreeNets();
        aFindWithoutAWayIsNotTold();
        sureOfOneOfMany();
        thereAreEightFinds();
        foundTakesFindsAndTwoQuestions();
        aPulledNetKeepsItsFind();
        CHECK.end();
    }

    private static HuskYard afloat(int... marks) {
        HuskYard yard = new HuskYard();
        for (int set : marks) {
            yard.net(0, set, 1, 1);
        }
        yard.flood(0);
        return yard;
    }

    private static void findTakesTwoSetsApart() {
        HuskYard yard = afloat(255, 0);
        CHECK.due("find(-1, 0)", yard.find(-1, 0), -1);
        CHECK.due("find(256, 0)", yard.find(256, 0), -1);
        CHECK.due("find(0, -1)", yard.find(0, -1), -1);
        CHECK.due("find(0, 256)", yard.find(0, 256), -1);
        CHECK.due("find(3, 2)", yard.find(3, 2), -1);
        CHECK.due("about(2)", yard.about(2), 0);
        CHECK.due("find(255, 0)", yard.find(255, 0), 0);
        CHECK.due("find(0, 255)", yard.find(0, 255), 1);
        CHECK.due("found(0, 1)", yard.found(0, 1), 0);
        CHECK.due("found(1, 1)", yard.found(1, 1), 1);
    }

    private static void aFindFitsByMarks() {
        HuskYard yard = afloat(3, 7, 5, 11);
        CHECK.due("a first that fits none", yard.find(16, 0), -1);
        CHECK.due("a first that all are against", yard.find(0, 1), -1);
        CHECK.due("find(3, 4)", yard.find(3, 4), 0);
        CHECK.due("fits 3 and 11", yard.found(0, 0), 2);
        CHECK.due("sure of none", yard.found(0, 1), -1);
        CHECK.due("find(16, 0) fits none", yard.find(16, 0), -1);
        CHECK.due("about(2)", yard.about(2), 1);
        CHECK.due("about(9)", yard.about(9), 0);
    }

    private static void aFindFitsWhatWasAfloatAsItWasTold() {
        HuskYard yard = afloat(1, 1);
        yard.net(1, 1, 1, 1);
        CHECK.due("find(1, 0)", yard.find(1, 0), 0);
        CHECK.due("fits the two afloat", yard.found(0, 0), 2);
        yard.flood(1);
        CHECK.due("one more afloat changes nothing", yard.found(0, 0), 2);
        CHECK.due("find(1, 0)", yard.find(1, 0), 1);
        CHECK.due("fits all three", yard.found(1, 0), 3);
        CHECK.due("find(1, 0)", yard.find(1, 0), 2);
        CHECK.due("first sure of none", yard.found(0, 1), -1);
        CHECK.due("about(9)", yard.about(9), 0);
        CHECK.due("a fourth has no way", yard.find(1, 0), -1);
    }

    private static void threeFindsForThreeNets() {
        HuskYard yard = afloat(1, 3, 7);
        CHECK.due("find(1, 0)", yard.find(1, 0), 0);
        CHECK.due("find(2, 0)", yard.find(2, 0), 1);
        CHECK.due("about(9)", yard.about(9), 0);
        CHECK.due("find(4, 0)", yard.find(4, 0), 2);
        for (int i = 0; i < 3; i++) {
            CHECK.due("found(" + i + ", 0)", yard.found(i, 0), 3 - i);
            CHECK.due("found(" + i + ", 1)", yard.found(i, 1), i);
            CHECK.due("netOf(" + i + ", 3)", yard.netOf(i, 3), 3);
            CHECK.due("netOf(" + i + ", 6)", yard.netOf(i, 6), i);
        }
        CHECK.due("about(8)", yard.about(8), 0);
        CHECK.due("about(9)", yard.about(9), 3);
    }

    private static void aFindWithoutAWayIsNotTold() {
        HuskYard yard = afloat(1, 1, 2);
        yard.find(1, 0);
        yard.find(1, 0);
        CHECK.due("three for two nets", yard.find(1, 2), -1);
        CHECK.due("about(2)", yard.about(2), 2);
        CHECK.due("found(2, 0)", yard.found(2, 0), -1);
        CHECK.due("two that are not told apart", yard.about(9), 0);
        CHECK.due("one that the two leave", yard.find(0, 0), 2);
        CHECK.due("it fits three", yard.found(2, 0), 3);
        CHECK.due("it is sure of the third", yard.found(2, 1), 2);
        CHECK.due("netOf(0, 6)", yard.netOf(0, 6), -1);
        CHECK.due("netOf(2, 6)", yard.netOf(2, 6), 2);
    }

    private static void sureOfOneOfMany() {
        HuskYard yard = afloat(1, 1, 2, 3);
        CHECK.due("find(2, 0)", yard.find(2, 0), 0);
        CHECK.due("find(3, 0)", yard.find(3, 0), 1);
        CHECK.due("3 bears both marks", yard.found(1, 1), 3);
        CHECK.due("so the first is the other", yard.found(0, 1), 2);
        CHECK.due("a net that is back fits no more", yard.find(2, 0), -1);
        CHECK.due("find(1, 0) fits two still afloat", yard.find(1, 0), 2);
        CHECK.due("found(2, 0)", yard.found(2, 0), 2);
        CHECK.due("found(2, 1)", yard.found(2, 1), -1);
    }

    private static void thereAreEightFinds() {
        HuskYard yard = afloat(0, 0, 0, 0, 0, 0, 0, 0, 0);
        for (int find = 0; find < 8; find++) {
            CHECK.due("find " + find, yard.find(0, 0), find);
        }
        CHECK.due("the ninth", yard.find(0, 0), -1);
        CHECK.due("about(2)", yard.about(2), 8);
        CHECK.due("about(9)", yard.about(9), 0);
        CHECK.due("found(7, 0)", yard.found(7, 0), 9);
    }

    private static void foundTakesFindsAndTwoQuestions() {
        HuskYard yard = afloat(1);
        yard.find(1, 0);
        CHECK.due("found(0, 0)", yard.found(0, 0), 1);
        CHECK.due("found(0, 1)", yard.found(0, 1), 0);
        CHECK.due("found(0, 2)", yard.found(0, 2), -1);
        CHECK.due("found(0, -1)", yard.found(0, -1), -1);
        CHECK.due("found(-1, 0)", yard.found(-1, 0), -1);
        CHECK.due("found(1, 0)", yard.found(1, 0), -1);
        CHECK.due("found(8, 1)", yard.found(8, 1), -1);
    }

    private static void aPulledNetKeepsItsFind() {
        HuskYard yard = afloat(1, 2);
        yard.find(1, 0);
        yard.pull(0);
        CHECK.due("find(2, 0)", yard.find(2, 0), 1);
        CHECK.due("a pulled net stays pulled", yard.netOf(0, 3), 1);
        CHECK.due("its find is sure of it", yard.netOf(0, 6), 0);
        CHECK.due("found(0, 0)", yard.found(0, 0), 1);
        CHECK.due("found(0, 1)", yard.found(0, 1), 0);
    }
}
