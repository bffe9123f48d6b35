import java.util.function.Supplier;

/** Every method with arguments from all over: no call throws, and a refused one changes nothing. */
public final class WildCallsTest {
    private static final Check CHECK = new Check("WildCallsTest");
    /** Outside of every range of the document, but for 10001, which a scale may read. */
    private static final int[] WILD = {Integer.MIN_VALUE, Integer.MIN_VALUE + 1, -1000000, -2, -1,
        10001, 20001, 1 << 20, 1 << 30, Integer.MAX_VALUE - 1, Integer.MAX_VALUE};

    public static void main(String[] args) {
        for (int v : WILD) {
            for (int w : new int[] {0, 1, v, -1, Integer.MAX_VALUE}) {
                refusedIn(HuskYard::new, v, w);
                refusedIn(Yards::busy, v, w);
                refusedIn(Yards::full, v, w);
            }
        }
        CHECK.end();
    }

    private static void refusedIn(Supplier<HuskYard> made, int v, int w) {
        CHECK.refused("nets' call of " + v + ", " + w, made, yard -> netsTake(yard, v, w));
        CHECK.refused("other call of " + v + ", " + w, made, yard -> othersTake(yard, v, w));
    }

    /** -1 if the yard refuses them all: the answers are joined by &, and -1 has all bits. */
    private static int netsTake(HuskYard yard, int v, int w) {
        int taken = yard.salt(v, w) || yard.salt(w, v) || yard.ripens(v, w) || yard.ripens(w, v) ? 0 : -1;
        taken &= yard.net(v, w, w, w) & yard.net(w, v, w, w) & yard.net(w, w, v, w);
        taken &= yard.net(w, w, w, v) & yard.weeks(v) & yard.pull(v) & yard.flood(v);
        taken &= yard.find(v, w) & yard.find(w, v) & yard.found(v, w) & yard.found(w, v);
        return taken & yard.netOf(v, w) & yard.netOf(w, v);
    }

    private static int othersTake(HuskYard yard, int v, int w) {
        int taken = yard.change(v) ? 0 : -1;
        taken &= yard.order(v, w, w, w) & yard.order(w, v, w, w) & yard.order(w, w, v, w);
        taken &= yard.order(w, w, w, v) & yard.spun(v, w) & yard.spun(w, v);
        taken &= yard.roll(v, w) & yard.roll(w, v) & yard.cut(v, w) & yard.cut(w, v) & yard.from(v);
        taken &= yard.reading(v, w) & yard.reading(w, v) & yard.about(v);
        return v == 10001 ? taken : taken & yard.back(v, false) & yard.back(v, true);
    }
}
