/** Every method with arguments from all over: no call throws, and a refused one changes nothing. */
public final class WildCallsTest {
    private static final Check CHECK = new Check("WildCallsTest");
    private static final int[] WILD = {Integer.MIN_VALUE, Integer.MIN_VALUE + 1, -1000000, -2, -1,
        10001, 20001, 1 << 20, 1 << 30, Integer.MAX_VALUE - 1, Integer.MAX_VALUE};

    public static void main(String[] args) {
        refused(new HuskYard());
        refused(fullYard());
        CHECK.end();
    }

    private static HuskYard fullYard() {
        HuskYard yard = new HuskYard();
        for (int i = 0; i < 30; i++) {
            yard.net(i % 8, i * 7, 1 + i, 1 + i);
            yard.order(i % 4, 1 + i, i * 30, 1 + i % 9);
            yard.roll(100 + i, i % 3);
            yard.cut(20 + i, i % 4);
            yard.reading(1 + i * 10, 1 + i * 10);
        }
        yard.weeks(10);
        yard.flood(1);
        yard.flood(2);
        yard.flood(3);
        for (int i = 0; i < 10; i++) {
            yard.find(0, 0);
        }
        return yard;
    }

    private static void refused(HuskYard yard) {
        int[] before = told(yard);
        for (int v : WILD) {
            for (int w : new int[] {0, 1, v, -1, Integer.MAX_VALUE}) {
                CHECK.due("salt", yard.salt(v, w) || yard.salt(w, v), false);
                CHECK.due("ripens", yard.ripens(v, w) || yard.ripens(w, v), false);
                CHECK.due("net", yard.net(v, w, w, w), -1);
                CHECK.due("net", yard.net(w, v, w, w), -1);
                CHECK.due("net", yard.net(w, w, v, w), -1);
                CHECK.due("net", yard.net(w, w, w, v), -1);
                CHECK.due("find", yard.find(v, w), -1);
                CHECK.due("find", yard.find(w, v), -1);
                CHECK.due("found", yard.found(v, w), -1);
                CHECK.due("found", yard.found(w, v), -1);
                CHECK.due("netOf", yard.netOf(v, w), -1);
                CHECK.due("netOf", yard.netOf(w, v), -1);
                CHECK.due("order", yard.order(v, w, w, w), -1);
                CHECK.due("order", yard.order(w, v, w, w), -1);
                CHECK.due("order", yard.order(w, w, v, w), -1);
                CHECK.due("order", yard.order(w, w, w, v), -1);
                CHECK.due("spun", yard.spun(v, w), -1);
                CHECK.due("spun", yard.spun(w, v), -1);
                CHECK.due("roll", yard.roll(v, w), -1);
                CHECK.due("roll", yard.roll(w, v), -1);
                CHECK.due("cut", yard.cut(v, w), -1);
                CHECK.due("cut", yard.cut(w, v), -1);
                CHECK.due("reading", v == 10001 ? -1 : yard.reading(w, v), -1);
                CHECK.due("reading", yard.reading(v, w), -1);
            }
            CHECK.due("weeks", yard.weeks(v), -1);
            CHECK.due("pull", yard.pull(v), -1);
            CHECK.due("flood", yard.flood(v), -1);
            CHECK.due("change", yard.change(v), false);
            CHECK.due("from", yard.from(v), -1);
            CHECK.due("about", yard.about(v), -1);
            if (v != 10001) {
                CHECK.due("back", yard.back(v, false), -1);
                CHECK.due("back", yard.back(v, true), -1);
            }
        }
        int[] after = told(yard);
        for (int i = 0; i < before.length; i++) {
            CHECK.due("what the yard tells, " + i, after[i], before[i]);
        }
    }

    private static int[] told(HuskYard yard) {
        int[] told = new int[400];
        int n = 0;
        for (int what = 0; what <= 9; what++) {
            told[n++] = yard.about(what);
        }
        for (int net = 0; net < 24; net++) {
            for (int what = 0; what <= 7; what++) {
                told[n++] = yard.netOf(net, what);
            }
        }
        for (int i = 0; i < 8; i++) {
            told[n++] = yard.found(i, 0);
            told[n++] = yard.found(i, 1);
            told[n++] = yard.spun(i, 0);
            told[n++] = yard.spun(i, 1);
            told[n++] = yard.from(i);
        }
        told[n++] = yard.late();
        told[n++] = yard.opened();
        told[n++] = yard.errs(false);
        told[n++] = yard.errs(true);
        told[n++] = yard.back(100, false);
        told[n] = yard.back(100, true);
        return told;
    }
}
