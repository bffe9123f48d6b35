/** Promises 8 and 9, and what 6 of promise 10: finds, what they fit and what they are sure of. */
public final class FindsTest {
    private static final Check CHECK = new Check("FindsTest");

    public static void main(String[] args) {
        findsByMarks();
        findsOutsideTheRanges();
        onlyNetsAfloatFit();
        aFindFitsWhatWasAfloatAsItWasTold();
        withoutAWay();
        thereAreEightFinds();
        threeFindsForThreeNets();
        sureOfOneOfMany();
        wholeSetsOfFindsBarNets();
        backAndPulledNetsAreCounted();
        foundRefuses();
        theFindThatIsSure();
        CHECK.end();
    }

    private static void fits(HuskYard yard, int... due) {
        for (int find = 0; find < due.length; find++) {
            CHECK.due("found(" + find + ", 0)", yard.found(find, 0), due[find]);
        }
    }

    private static void sure(HuskYard yard, int... due) {
        for (int find = 0; find < due.length; find++) {
            CHECK.due("found(" + find + ", 1)", yard.found(find, 1), due[find]);
        }
    }

    private static void findsByMarks() {
        CHECK.on(8, "all marks seen; all marks seen not to be there");
        HuskYard yard = Yards.afloat(255, 0, 127, 128);
        CHECK.due("find(255, 0)", yard.find(255, 0), 0);
        CHECK.due("find(0, 255)", yard.find(0, 255), 1);
        fits(yard, 1, 1);
        sure(yard, 0, 1);
        CHECK.on(8, "two sets that are all marks together");
        CHECK.due("find(127, 128)", yard.find(127, 128), 2);
        sure(yard, 0, 1, 2);
        CHECK.on(8, "no mark seen, none seen not to be there: it fits what is afloat");
        CHECK.due("find(0, 0)", yard.find(0, 0), 3);
        fits(yard, 1, 1, 1, 1);
        sure(yard, 0, 1, 2, 3);

        CHECK.on(8, "all of the first marks, none of the others");
        HuskYard four = Yards.afloat(3, 7, 5, 11);
        CHECK.due("find(3, 4)", four.find(3, 4), 0);
        fits(four, 2);
        CHECK.due("find(6, 0)", four.find(6, 0), 1);
        fits(four, 2, 1);
        CHECK.due("find(1, 0)", four.find(1, 0), 2);
        fits(four, 2, 1, 3);
        CHECK.on(8, "marks that are neither seen nor seen not to be there are free");
        CHECK.due("find(0, 4)", four.find(0, 4), 3);
        fits(four, 2, 1, 3, 2);
    }

    private static void findsOutsideTheRanges() {
        int[] outside = {-1, 256, Integer.MIN_VALUE, Integer.MAX_VALUE};
        CHECK.on(8, "NONE: others, of the marks seen");
        for (int seen : outside) {
            CHECK.refused("find(" + seen + ", 0)", Yards::busy, y -> y.find(seen, 0));
        }
        CHECK.on(8, "NONE: others, of the marks seen not to be there");
        for (int not : outside) {
            CHECK.refused("find(0, " + not + ")", Yards::busy, y -> y.find(0, not));
        }
        CHECK.on(8, "NONE: a mark in both, whichever it is");
        for (int bit = 0; bit < 8; bit++) {
            int mark = 1 << bit;
            CHECK.refused("find(" + mark + ", " + mark + ")", Yards::busy, y -> y.find(mark, mark));
        }
    }

    private static void onlyNetsAfloatFit() {
        CHECK.on(8, "it fits no net in a pit, none pulled");
        HuskYard yard = new HuskYard();
        yard.net(0, 1, 1, 1);
        yard.net(0, 1, 1, 1);
        CHECK.due("in: find(1, 0)", yard.find(1, 0), -1);
        yard.pull(0);
        yard.pull(1);
        CHECK.due("pulled: find(1, 0)", yard.find(1, 0), -1);
        CHECK.on(8, "it fits no net that is back");
        yard.net(0, 1, 1, 1);
        yard.net(0, 3, 1, 1);
        yard.flood(0);
        CHECK.due("find(2, 0)", yard.find(2, 0), 0);
        CHECK.due("find(2, 0) again", yard.find(2, 0), -1);
        CHECK.due("find(1, 0)", yard.find(1, 0), 1);
        fits(yard, 1, 1);
        sure(yard, 3, 2);
    }

    private static void aFindFitsWhatWasAfloatAsItWasTold() {
        CHECK.on(8, "nets that float off later don't fit it");
        HuskYard yard = Yards.afloat(1, 1);
        yard.net(1, 1, 1, 1);
        CHECK.due("find(1, 0)", yard.find(1, 0), 0);
        fits(yard, 2);
        yard.flood(1);
        fits(yard, 2);
        CHECK.due("find(1, 0)", yard.find(1, 0), 1);
        fits(yard, 2, 3);
        CHECK.due("find(1, 0)", yard.find(1, 0), 2);
        sure(yard, -1, -1, -1);
        CHECK.due("about(9)", yard.about(9), 0);
        CHECK.on(8, "no way: more finds than nets");
        CHECK.due("find(1, 0)", yard.find(1, 0), -1);
    }

    private static HuskYard twoFindsForTwoNets() {
        HuskYard yard = Yards.afloat(1, 1, 2);
        yard.find(1, 0);
        yard.find(1, 0);
        return yard;
    }

    private static void withoutAWay() {
        CHECK.on(8, "no way: there is no net, or none afloat");
        CHECK.refused("find(0, 0) of a new yard", HuskYard::new, y -> y.find(0, 0));
        HuskYard dry = new HuskYard();
        dry.net(0, 0, 1, 1);
        CHECK.due("find(0, 0)", dry.find(0, 0), -1);
        CHECK.on(8, "no way: it fits none, by a mark too few, by a mark too many");
        CHECK.refused("find(3, 0)", () -> Yards.afloat(1, 2, 4), y -> y.find(3, 0));
        CHECK.refused("find(0, 1)", () -> Yards.afloat(1, 3), y -> y.find(0, 1));
        CHECK.on(8, "no way: three finds for the same two nets");
        CHECK.refused("find(1, 2)", FindsTest::twoFindsForTwoNets, y -> y.find(1, 2));
        CHECK.on(8, "what isn't told has no number and brings no net back");
        HuskYard yard = twoFindsForTwoNets();
        yard.find(1, 2);
        CHECK.due("about(2)", yard.about(2), 2);
        CHECK.due("about(9)", yard.about(9), 0);
        CHECK.due("found(2, 0)", yard.found(2, 0), -1);
        CHECK.due("the next number", yard.find(0, 0), 2);
        fits(yard, 2, 2, 3);
        sure(yard, -1, -1, 2);
    }

    private static void thereAreEightFinds() {
        CHECK.on(8, "the numbers 0 to 7");
        HuskYard yard = Yards.afloat(0, 0, 0, 0, 0, 0, 0, 0, 0);
        for (int find = 0; find < 8; find++) {
            CHECK.due("find " + find, yard.find(0, 0), find);
        }
        CHECK.on(8, "NONE: there are 8, though a way would be");
        CHECK.due("find(0, 0)", yard.find(0, 0), -1);
        CHECK.due("about(2)", yard.about(2), 8);
        CHECK.due("about(9)", yard.about(9), 0);
        fits(yard, 9, 9, 9, 9, 9, 9, 9, 9, -1);
        CHECK.refused("find(0, 0) of a full yard", Yards::full, y -> y.find(0, 0));
        CHECK.on(8, "eight finds whose nets were pulled are still eight");
        HuskYard pulled = Yards.afloat(1, 2, 4, 8, 16, 32, 64, 128, 0);
        for (int find = 0; find < 8; find++) {
            pulled.find(1 << find, 0);
            pulled.pull(find);
        }
        CHECK.due("about(2)", pulled.about(2), 8);
        CHECK.due("find(0, 0)", pulled.find(0, 0), -1);
        CHECK.on(8, "eight finds for just eight nets, the last of 24");
        HuskYard last = new HuskYard();
        for (int net = 0; net < 24; net++) {
            last.net(net < 16 ? 0 : 1, 0, 1, 1);
        }
        last.flood(1);
        for (int find = 0; find < 8; find++) {
            CHECK.due("find " + find, last.find(0, 0), find);
        }
        CHECK.due("about(9)", last.about(9), 0);
    }

    private static void threeFindsForThreeNets() {
        CHECK.on(9, "sure by what the other finds leave");
        HuskYard yard = Yards.afloat(1, 3, 7);
        yard.find(1, 0);
        yard.find(2, 0);
        sure(yard, -1, -1);
        CHECK.due("about(9)", yard.about(9), 0);
        yard.find(4, 0);
        fits(yard, 3, 2, 1);
        sure(yard, 0, 1, 2);
        CHECK.on(9, "the nets are back then");
        for (int net = 0; net < 3; net++) {
            CHECK.due("netOf(" + net + ", 3)", yard.netOf(net, 3), 3);
            CHECK.due("netOf(" + net + ", 6)", yard.netOf(net, 6), net);
        }
        CHECK.due("about(8)", yard.about(8), 0);
        CHECK.due("about(9)", yard.about(9), 3);
    }

    private static void sureOfOneOfMany() {
        CHECK.on(9, "sure of one, not sure of another");
        HuskYard yard = Yards.afloat(1, 1, 2, 3);
        yard.find(2, 0);
        sure(yard, -1);
        yard.find(3, 0);
        sure(yard, 2, 3);
        yard.find(1, 0);
        fits(yard, 2, 1, 2);
        sure(yard, 2, 3, -1);
        CHECK.on(9, "a net to which some find must be led, but not always the same, is not back");
        HuskYard two = Yards.afloat(1, 1);
        two.find(1, 0);
        two.find(0, 2);
        sure(two, -1, -1);
        CHECK.due("about(8)", two.about(8), 2);
        CHECK.due("netOf(0, 6)", two.netOf(0, 6), -1);
    }

    private static void wholeSetsOfFindsBarNets() {
        CHECK.on(9, "four finds for four nets bar these for a fifth find");
        HuskYard yard = Yards.afloat(1, 3, 5, 9, 16);
        yard.find(0, 0);
        yard.find(1, 0);
        yard.find(1, 0);
        yard.find(1, 0);
        sure(yard, -1, -1, -1, -1);
        yard.find(1, 0);
        sure(yard, 4, -1, -1, -1, -1);
        CHECK.due("netOf(4, 3)", yard.netOf(4, 3), 3);
        CHECK.due("netOf(4, 6)", yard.netOf(4, 6), 0);
        CHECK.due("about(9)", yard.about(9), 1);
        CHECK.on(9, "more finds: fewer ways, and what was sure stays so");
        yard.find(2, 0);
        sure(yard, 4, -1, -1, -1, -1, -1);
        CHECK.due("find(2, 0) has no way", yard.about(2), 5);
        CHECK.due("about(9)", yard.about(9), 1);
    }

    private static void backAndPulledNetsAreCounted() {
        CHECK.on(9, "back ones, pulled ones, too, that it did fit as it was told");
        HuskYard yard = Yards.afloat(1, 3, 0);
        yard.find(1, 0);
        yard.find(2, 0);
        fits(yard, 2, 1);
        CHECK.due("about(9)", yard.about(9), 2);
        yard.pull(0);
        yard.pull(1);
        fits(yard, 2, 1);
        CHECK.on(9, "of a net that was pulled since it is sure all the same");
        sure(yard, 0, 1);
        CHECK.on(9, "a pulled net stays pulled when more is found");
        CHECK.due("find(0, 0)", yard.find(0, 0), 2);
        CHECK.due("netOf(0, 3)", yard.netOf(0, 3), 1);
        CHECK.due("netOf(1, 3)", yard.netOf(1, 3), 1);
        CHECK.due("netOf(2, 3)", yard.netOf(2, 3), 3);
        fits(yard, 2, 1, 1);
    }

    private static void foundRefuses() {
        CHECK.on(9, "NONE: it is sure of none");
        CHECK.due("found(1, 1)", Yards.busy().found(1, 1), -1);
        CHECK.on(9, "NONE for others: no such find");
        for (int what = 0; what <= 1; what++) {
            int asked = what;
            CHECK.due("found(0, " + what + ") of a new yard", new HuskYard().found(0, what), -1);
            for (int find : new int[] {-1, 2, 8, Integer.MIN_VALUE, Integer.MAX_VALUE}) {
                CHECK.refused("found(" + find + ", " + what + ")", Yards::busy, y -> y.found(find, asked));
            }
            CHECK.due("found(8, " + what + ") of 8", Yards.full().found(8, what), -1);
        }
        CHECK.on(9, "NONE for others: no such question");
        for (int what : new int[] {-1, 2, Integer.MIN_VALUE, Integer.MAX_VALUE}) {
            CHECK.refused("found(0, " + what + ")", Yards::busy, y -> y.found(0, what));
        }
    }

    private static void theFindThatIsSure() {
        CHECK.on(10, "6: the find that is sure of it, NONE if none is");
        HuskYard yard = Yards.afloat(1, 2, 2);
        yard.net(3, 1, 1, 1);
        yard.find(2, 0);
        yard.find(1, 0);
        int[] due = {1, -1, -1, -1};
        for (int net = 0; net < due.length; net++) {
            CHECK.due("netOf(" + net + ", 6)", yard.netOf(net, 6), due[net]);
        }
        CHECK.on(10, "6: of a pulled net too");
        yard.pull(0);
        yard.pull(3);
        CHECK.due("netOf(0, 6)", yard.netOf(0, 6), 1);
        CHECK.due("netOf(3, 6)", yard.netOf(3, 6), -1);
        CHECK.on(10, "6: the eighth find, the last net");
        HuskYard last = new HuskYard();
        for (int net = 0; net < 23; net++) {
            last.net(1, 0, 1, 1);
        }
        last.net(1, 128, 1, 1);
        last.flood(1);
        for (int find = 0; find < 7; find++) {
            last.find(0, 128);
        }
        CHECK.due("find(128, 0)", last.find(128, 0), 7);
        CHECK.due("netOf(23, 6)", last.netOf(23, 6), 7);
        CHECK.due("found(7, 1)", last.found(7, 1), 23);
        CHECK.due("netOf(22, 6)", last.netOf(22, 6), -1);
    }
}
