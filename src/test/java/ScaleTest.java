/** Promises 21 to 23: readings, the bounds of the error, and weights worked back. */
public final class ScaleTest {
    private static final Check CHECK = new Check("ScaleTest");

    public static void main(String[] args) {
        readingsAreTold();
        readingsAreRefused();
        thereAreTwentyReadings();
        readingsWithoutAnError();
        errorsWithoutReadings();
        readingsNarrowTheError();
        weightsBackWithoutReadings();
        weightsBackByOneError();
        weightsBackByAFewErrors();
        backRefuses();
        CHECK.end();
    }

    private static void errors(HuskYard yard, int low, int high) {
        CHECK.due("errs(false)", yard.errs(false), low);
        CHECK.due("errs(true)", yard.errs(true), high);
    }

    private static void weights(HuskYard yard, int read, int least, int greatest) {
        CHECK.due("back(" + read + ", false)", yard.back(read, false), least);
        CHECK.due("back(" + read + ", true)", yard.back(read, true), greatest);
    }

    /** A yard whose scale is known to err by just so much. */
    private static HuskYard erring(int error) {
        HuskYard yard = new HuskYard();
        yard.reading(10000, 10000 + 10 * error);
        return yard;
    }

    private static void readingsAreTold() {
        CHECK.on(21, "the least weight, read as nothing; the greatest; how many there are");
        HuskYard yard = new HuskYard();
        CHECK.due("reading(1, 0)", yard.reading(1, 0), 1);
        CHECK.due("reading(10000, 8000)", yard.reading(10000, 8000), 2);
        CHECK.due("about(6)", yard.about(6), 2);
        CHECK.on(21, "the same reading again is one more");
        CHECK.due("reading(1, 0)", yard.reading(1, 0), 3);
        CHECK.on(21, "the greatest error, the greatest that can be read");
        CHECK.due("reading(10000, 12000)", new HuskYard().reading(10000, 12000), 1);
    }

    private static void readingsAreRefused() {
        CHECK.on(21, "NONE for others: a weight too small, too great");
        for (int weight : new int[] {0, -1, -100, Integer.MIN_VALUE}) {
            CHECK.refused("reading(" + weight + ", 0)", HuskYard::new, y -> y.reading(weight, 0));
        }
        CHECK.refused("reading(-10, -10)", HuskYard::new, y -> y.reading(-10, -10));
        CHECK.refused("reading(10001, 10001)", HuskYard::new, y -> y.reading(10001, 10001));
        CHECK.refused("reading(MAX, 0)", HuskYard::new, y -> y.reading(Integer.MAX_VALUE, 0));
        CHECK.on(21, "NONE for others: a weight that wraps around to what was read");
        CHECK.refused("reading(1 << 30, 0)", HuskYard::new, y -> y.reading(1 << 30, 0));
        CHECK.on(21, "NONE for others: read too little, too much");
        for (int read : new int[] {-1, 20001, Integer.MIN_VALUE, Integer.MAX_VALUE}) {
            CHECK.refused("reading(1, " + read + ")", Yards::busy, y -> y.reading(1, read));
            CHECK.refused("reading(10000, " + read + ")", HuskYard::new, y -> y.reading(10000, read));
        }
    }

    private static void thereAreTwentyReadings() {
        CHECK.on(21, "up to 20");
        HuskYard yard = new HuskYard();
        for (int count = 1; count <= 20; count++) {
            CHECK.due("reading " + count, yard.reading(1, 1), count);
        }
        CHECK.on(21, "NONE if there are 20, though an error would do");
        CHECK.due("reading(10000, 10000)", yard.reading(10000, 10000), -1);
        CHECK.due("about(6)", yard.about(6), 20);
        errors(yard, 0, 200);
        CHECK.refused("reading(100, 104)", Yards::full, y -> y.reading(100, 104));
    }

    private static HuskYard by100To109() {
        HuskYard yard = new HuskYard();
        yard.reading(100, 110);
        return yard;
    }

    private static void readingsWithoutAnError() {
        CHECK.on(21, "no error would do: one beyond the greatest, one below the least");
        CHECK.refused("reading(10000, 12001)", HuskYard::new, y -> y.reading(10000, 12001));
        CHECK.refused("reading(10000, 7999)", HuskYard::new, y -> y.reading(10000, 7999));
        CHECK.refused("reading(10000, 20000)", HuskYard::new, y -> y.reading(10000, 20000));
        CHECK.refused("reading(1, 2)", HuskYard::new, y -> y.reading(1, 2));
        CHECK.on(21, "no error would do: between two errors");
        CHECK.refused("reading(10000, 10005)", HuskYard::new, y -> y.reading(10000, 10005));
        CHECK.on(21, "no error would do for all readings: not told");
        CHECK.refused("reading(100, 109)", ScaleTest::by100To109, y -> y.reading(100, 109));
        CHECK.refused("reading(100, 111)", ScaleTest::by100To109, y -> y.reading(100, 111));
        CHECK.refused("reading(1000, 1099)", ScaleTest::by100To109, y -> y.reading(1000, 1099));
        CHECK.refused("reading(1000, 1110)", ScaleTest::by100To109, y -> y.reading(1000, 1110));
        CHECK.on(21, "a reading that isn't told narrows nothing and isn't counted");
        HuskYard yard = by100To109();
        yard.reading(1000, 1099);
        yard.reading(1000, 1110);
        errors(yard, 100, 109);
        CHECK.due("reading(1000, 1100)", yard.reading(1000, 1100), 2);
    }

    private static void errorsWithoutReadings() {
        CHECK.on(22, "-200, 200 without readings");
        errors(new HuskYard(), -200, 200);
        CHECK.on(22, "-200, 200 after refused readings");
        HuskYard yard = new HuskYard();
        yard.reading(0, 0);
        yard.reading(1, 5);
        errors(yard, -200, 200);
        CHECK.on(22, "a bound of which a reading says nothing stays");
        yard.reading(9, 7);
        errors(yard, -200, -112);
        HuskYard other = new HuskYard();
        other.reading(1, 1);
        errors(other, 0, 200);
    }

    private static void readingsNarrowTheError() {
        CHECK.on(22, "what was read is cut: the least and the greatest error of one reading");
        HuskYard cut = new HuskYard();
        cut.reading(1, 0);
        errors(cut, -200, -1);
        CHECK.on(22, "from below, from above, not at all, to one");
        HuskYard yard = new HuskYard();
        yard.reading(100, 104);
        errors(yard, 40, 49);
        yard.reading(7, 7);
        errors(yard, 40, 49);
        yard.reading(200, 209);
        errors(yard, 45, 49);
        yard.reading(250, 261);
        errors(yard, 45, 47);
        yard.reading(10000, 10460);
        errors(yard, 46, 46);
        CHECK.on(22, "each single error, from -200 to 200");
        for (int error = -200; error <= 200; error++) {
            errors(erring(error), error, error);
        }
    }

    private static void weightsBackWithoutReadings() {
        HuskYard yard = new HuskYard();
        CHECK.on(23, "read as nothing");
        weights(yard, 0, 1, 1);
        CHECK.on(23, "the least and the greatest weight by some error");
        weights(yard, 1, 1, 2);
        weights(yard, 2, 2, 3);
        weights(yard, 1000, 834, 1251);
        CHECK.on(23, "no weight beyond 10000");
        weights(yard, 7999, 6666, 9999);
        weights(yard, 8000, 6667, 10000);
        weights(yard, 8001, 6668, 9990);
        weights(yard, 9000, 7500, 10000);
        weights(yard, 11990, 9992, 10000);
        weights(yard, 11998, 9999, 9999);
        weights(yard, 12000, 10000, 10000);
        CHECK.on(23, "NONE: none could, by any error");
        weights(yard, 11999, -1, -1);
        weights(yard, 12001, -1, -1);
        weights(yard, 20000, -1, -1);
    }

    private static void weightsBackByOneError() {
        CHECK.on(23, "several weights are read so by one error");
        HuskYard light = erring(-100);
        weights(light, 0, 1, 1);
        weights(light, 9, 10, 11);
        weights(light, 9000, 10000, 10000);
        CHECK.on(23, "NONE: beyond what the greatest weight is read as");
        weights(light, 9001, -1, -1);
        CHECK.on(23, "NONE: read as nothing, by a scale that errs upwards or not at all");
        HuskYard heavy = erring(100);
        weights(heavy, 0, -1, -1);
        weights(erring(0), 0, -1, -1);
        CHECK.on(23, "NONE: a gap between two weights");
        weights(heavy, 9, 9, 9);
        weights(heavy, 10, -1, -1);
        weights(heavy, 11, 10, 10);
        weights(heavy, 21, -1, -1);
        CHECK.on(23, "without an error each weight is read as it is, from 1 to 10000");
        HuskYard just = erring(0);
        weights(just, 1, 1, 1);
        weights(just, 10000, 10000, 10000);
        weights(just, 10001, -1, -1);
        CHECK.on(23, "a weight that falls short of what was read by a thousandth");
        weights(erring(-1), 0, 1, 1);
        weights(erring(-1), 1, 2, 2);
        weights(erring(-1), 998, 999, 999);
        weights(erring(-1), 999, 1000, 1001);
        CHECK.on(23, "the greatest and the least error");
        weights(erring(200), 12000, 10000, 10000);
        weights(erring(200), 12001, -1, -1);
        weights(erring(200), 5, -1, -1);
        weights(erring(200), 6, 5, 5);
        weights(erring(-200), 8000, 10000, 10000);
        weights(erring(-200), 4, 5, 6);
        weights(erring(-200), 0, 1, 1);
    }

    private static void weightsBackByAFewErrors() {
        CHECK.on(23, "by some error from the least to the greatest, no other");
        HuskYard yard = by100To109();
        weights(yard, 110, 100, 100);
        weights(yard, 1100, 992, 1000);
        weights(yard, 1101, 993, 1001);
        weights(yard, 10, -1, -1);
        weights(yard, 11090, 10000, 10000);
        weights(yard, 11088, 9999, 9999);
        weights(yard, 11089, -1, -1);
        weights(yard, 11091, -1, -1);
    }

    private static void backRefuses() {
        CHECK.on(23, "NONE: what can't be read at all");
        for (int read : new int[] {-1, 20001, Integer.MIN_VALUE, Integer.MAX_VALUE}) {
            CHECK.refused("back(" + read + ", false)", Yards::busy, y -> y.back(read, false));
            CHECK.refused("back(" + read + ", true)", Yards::busy, y -> y.back(read, true));
        }
        CHECK.on(23, "NONE: thousandths that wrap around");
        weights(new HuskYard(), 4294968, -1, -1);
        weights(new HuskYard(), 1 << 29, -1, -1);
    }
}
