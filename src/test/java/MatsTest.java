/** Promises 16 to 20: rolls, cuts and the least lay. */
public final class MatsTest {
    private static final Check CHECK = new Check("MatsTest");

    public static void main(String[] args) {
        rollTakesWhatTheTermsAllow();
        cutTakesWhatTheTermsAllow();
        aRollGivesNoMoreThanItsLength();
        aRollIsOpenedOnce();
        aMatIsOfOneLot();
        ofLikeLaysTheLowerRollFirst();
        theLeastMayNeedManyRolls();
        withoutALayThereIsNone();
        awayDropsAll();
        CHECK.end();
    }

    private static void lay(HuskYard yard, int opened, int... rolls) {
        CHECK.due("opened()", yard.opened(), opened);
        for (int cut = 0; cut < rolls.length; cut++) {
            CHECK.due("from(" + cut + ")", yard.from(cut), rolls[cut]);
        }
    }

    private static void rollTakesWhatTheTermsAllow() {
        HuskYard yard = new HuskYard();
        CHECK.due("roll(0, 0)", yard.roll(0, 0), -1);
        CHECK.due("roll(1001, 0)", yard.roll(1001, 0), -1);
        CHECK.due("roll(1, -1)", yard.roll(1, -1), -1);
        CHECK.due("roll(1, 3)", yard.roll(1, 3), -1);
        CHECK.due("about(4)", yard.about(4), 0);
        for (int roll = 0; roll < 6; roll++) {
            CHECK.due("roll " + roll, yard.roll(roll == 0 ? 1000 : 1, roll % 3), roll);
        }
        CHECK.due("the seventh", yard.roll(1, 0), -1);
        CHECK.due("about(4)", yard.about(4), 6);
        lay(yard, 0);
    }

    private static void cutTakesWhatTheTermsAllow() {
        HuskYard yard = new HuskYard();
        CHECK.due("cut(0, 0)", yard.cut(0, 0), -1);
        CHECK.due("cut(501, 0)", yard.cut(501, 0), -1);
        CHECK.due("cut(1, -1)", yard.cut(1, -1), -1);
        CHECK.due("cut(1, 4)", yard.cut(1, 4), -1);
        CHECK.due("about(5)", yard.about(5), 0);
        for (int cut = 0; cut < 8; cut++) {
            CHECK.due("cut " + cut, yard.cut(cut == 0 ? 500 : 1, cut % 4), cut);
        }
        CHECK.due("the ninth", yard.cut(1, 0), -1);
        CHECK.due("about(5)", yard.about(5), 8);
        yard.roll(1000, 2);
        lay(yard, 1000, 0, 0, 0, 0, 0, 0, 0, 0);
        CHECK.due("from(8)", yard.from(8), -1);
        CHECK.due("from(-1)", yard.from(-1), -1);
    }

    private static void aRollGivesNoMoreThanItsLength() {
        HuskYard yard = new HuskYard();
        yard.roll(10, 0);
        yard.roll(9, 0);
        yard.cut(5, 0);
        yard.cut(5, 0);
        lay(yard, 10, 0, 0);
        yard.cut(1, 0);
        lay(yard, 19, 0, 0, 1);
        yard.cut(9, 0);
        lay(yard, -1, -1, -1, -1, -1);
    }

    private static void aRollIsOpenedOnce() {
        HuskYard yard = new HuskYard();
        yard.roll(10, 0);
        yard.roll(9, 0);
        yard.cut(1, 0);
        yard.cut(9, 0);
        lay(yard, 10, 0, 0);
    }

    private static void aMatIsOfOneLot() {
        HuskYard yard = new HuskYard();
        yard.roll(10, 0);
        yard.roll(10, 1);
        yard.cut(10, 2);
        yard.cut(10, 2);
        lay(yard, -1, -1, -1);
        yard.roll(300, 1);
        lay(yard, 300, 2, 2);
        yard.roll(10, 0);
        lay(yard, 20, 0, 3);
        yard.cut(10, 1);
        lay(yard, 30, 0, 3, 1);
    }

    private static void ofLikeLaysTheLowerRollFirst() {
        HuskYard yard = new HuskYard();
        yard.roll(10, 0);
        yard.roll(10, 1);
        yard.roll(20, 2);
        yard.cut(10, 0);
        yard.cut(10, 1);
        lay(yard, 20, 0, 1);
        yard.cut(1, 2);
        lay(yard, 30, 0, 2, 2);
    }

    private static void theLeastMayNeedManyRolls() {
        HuskYard yard = new HuskYard();
        yard.roll(1000, 0);
        for (int roll = 1; roll < 6; roll++) {
            yard.roll(100 + roll, 1);
        }
        for (int cut = 0; cut < 8; cut++) {
            yard.cut(50, 0);
        }
        lay(yard, 410, 1, 1, 2, 2, 3, 3, 4, 4);
    }

    private static void withoutALayThereIsNone() {
        HuskYard yard = new HuskYard();
        yard.cut(1, 0);
        lay(yard, -1, -1);
        yard.roll(1, 0);
        lay(yard, 1, 0);
        yard.cut(500, 3);
        lay(yard, -1, -1, -1);
        yard.roll(500, 0);
        lay(yard, 501, 0, 1);
    }

    private static void awayDropsAll() {
        HuskYard yard = new HuskYard();
        yard.roll(10, 0);
        yard.roll(10, 0);
        yard.cut(3, 0);
        yard.opened();
        CHECK.due("away()", yard.away(), 1);
        CHECK.due("away() again", yard.away(), 0);
        CHECK.due("about(4)", yard.about(4), 0);
        CHECK.due("about(5)", yard.about(5), 0);
        CHECK.due("from(0)", yard.from(0), -1);
        lay(yard, 0);
        CHECK.due("cut numbers begin anew", yard.cut(4, 1), 0);
        lay(yard, -1, -1);
        CHECK.due("roll numbers begin anew", yard.roll(5, 1), 0);
        lay(yard, 5, 0);
    }
}
