/** Promises 21 to 23: readings, the bounds of the error, and weights worked back. */
public final class ScaleTest {
    private static final Check CHECK = new Check("ScaleTest");

    public static void main(String[] args) {
        readingTakesWhatTheTermsAllow();
        thereAreTwentyReadings();
        readingsNarrowTheError();
        aReadingWithoutAnErrorIsNotTold();
        weightsBackWithoutReadings();
        weightsBackByOneError();
        CHECK.end();
    }

    private static void errors(HuskYard yard, int low, int high) {
        CHECK.due("errs(false)", yard.errs(false), low);
        CHECK.due("errs(true)", yard.errs(true), high);
    }

    private static void weights(HuskYard yard, int read, int least, int greatest) {
        CHECK.due("back(" + read + ", false)", yard.back(read, false), least);
        CHECK.due("back(" + read + ", true)", yard.back(read, true), greatest);
    }

    private static void readingTakesWhatTheTermsAllow() {
        HuskYard yard = new HuskYard();
        CHECK.due("reading(0, 0)", yard.reading(0, 0), -1);
        CHECK.due("reading(-5, 0)", yard.reading(-5, 0), -1);
        CHECK.due("reading(10001, 10001)", yard.reading(10001, 10001), -1);
        CHECK.due("reading(1, -1)", yard.reading(1, -1), -1);
        CHECK.due("reading(10000, 20001)", yard.reading(10000, 20001), -1);
        CHECK.due("reading(10000, 20000)", yard.reading(10000, 20000), -1);
        CHECK.due("reading(MAX, MAX)", yard.reading(Integer.MAX_VALUE, Integer.MAX_VALUE), -1);
        CHECK.due("about(6)", yard.about(6), 0);
        errors(yard, -200, 200);
        CHECK.due("reading(1, 0)", yard.reading(1, 0), 1);
        errors(yard, -200, -1);
        CHECK.due("reading(10000, 8000)", yard.reading(10000, 8000), 2);
        errors(yard, -200, -200);
    }

    private static void thereAreTwentyReadings() {
        HuskYard yard = new HuskYard();
        for (int count = 1; count <= 20; count++) {
            CHECK.due("reading " + count, yard.reading(1, 1), count);
        }
        CHECK.due("the 21st", yard.reading(10000, 10000), -1);
        CHECK.due("about(6)", yard.about(6), 20);
        errors(yard, 0, 200);
    }

    private static void readingsNarrowTheError() {
        HuskYard yard = new HuskYard();
        yard.reading(100, 104);
        errors(yard, 40, 49);
        yard.reading(7, 7);
        errors(yard, 40, 49);
        yard.reading(200, 209);
        errors(yard, 45, 49);
        yard.reading(10000, 10480);
        errors(yard, 48, 48);
        HuskYard top = new HuskYard();
        CHECK.due("reading(10000, 12000)", top.reading(10000, 12000), 1);
        errors(top, 200, 200);
    }

    private static void aReadingWithoutAnErrorIsNotTold() {
        HuskYard yard = new HuskYard();
        CHECK.due("reading(10000, 12001)", yard.reading(10000, 12001), -1);
        CHECK.due("reading(10000, 7999)", yard.reading(10000, 7999), -1);
        CHECK.due("between two errors", yard.reading(10000, 10005), -1);
        CHECK.due("reading(100, 110)", yard.reading(100, 110), 1);
        CHECK.due("against the first", yard.reading(100, 109), -1);
        CHECK.due("against the first", yard.reading(100, 111), -1);
        errors(yard, 100, 109);
        CHECK.due("about(6)", yard.about(6), 1);
    }

    private static void weightsBackWithoutReadings() {
        HuskYard yard = new HuskYard();
        weights(yard, 0, 1, 1);
        weights(yard, 1, 1, 2);
        weights(yard, 1000, 834, 1251);
        weights(yard, 8000, 6667, 10000);
        weights(yard, 12000, 10000, 10000);
        weights(yard, 12001, -1, -1);
        weights(yard, 20000, -1, -1);
        weights(yard, 20001, -1, -1);
        weights(yard, -1, -1, -1);
        weights(yard, Integer.MAX_VALUE, -1, -1);
        weights(yard, Integer.MIN_VALUE, -1, -1);
        weights(yard, 4294968, -1, -1);
    }

    private static void weightsBackByOneError() {
        HuskYard yard = new HuskYard();
        yard.reading(10000, 9000);
        errors(yard, -100, -100);
        weights(yard, 0, 1, 1);
        weights(yard, 9, 10, 11);
        weights(yard, 9000, 10000, 10000);
        weights(yard, 9001, -1, -1);
        HuskYard other = new HuskYard();
        other.reading(10000, 11000);
        weights(other, 0, -1, -1);
        weights(other, 10, -1, -1);
        weights(other, 9, 9, 9);
        weights(other, 11, 10, 10);
        weights(other, 21, -1, -1);
    }
}
