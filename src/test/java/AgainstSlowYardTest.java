import java.util.Random;

/** Runs of calls, always the same, on HuskYard and on SlowYard: each pair of answers is alike. */
public final class AgainstSlowYardTest {
    private static final Check CHECK = new Check("AgainstSlowYardTest");
    private static final int MOST_CALLS = 512;
    // A find and all that is asked behind it.
    private static final int MOST_CALLS_AT_ONCE = 90;

    private final Random random;
    private final HuskYard yard = new HuskYard();
    private final SlowYard slow = new SlowYard();
    private final int trueError;

    private AgainstSlowYardTest(long seed) {
        random = new Random(seed);
        trueError = to(-200, 200);
    }

    public static void main(String[] args) {
        int runs = args.length > 0 ? Integer.parseInt(args[0]) : 500;
        for (int seed = 1; seed <= runs && CHECK.wrong() < 20; seed++) {
            AgainstSlowYardTest run = new AgainstSlowYardTest(seed);
            int end = CHECK.looked() + MOST_CALLS - MOST_CALLS_AT_ONCE;
            while (CHECK.looked() <= end) {
                run.callOf(seed % 5);
            }
        }
        CHECK.end();
    }

    /** Most calls of a run go to one part of the yard, so that this part gets full. */
    private void callOf(int part) {
        switch (random.nextInt(8) == 0 ? random.nextInt(5) : part) {
            case 0:
            case 1:
                callNets(part == 1);
                break;
            case 2:
                callOrders();
                break;
            case 3:
                callMats();
                break;
            default:
                callScale();
                break;
        }
        int what = to(-1, 10);
        CHECK.due("about(" + what + ")", yard.about(what), slow.about(what));
    }

    /** A number of the range, now and then one just outside or far off. */
    private int near(int least, int most) {
        switch (random.nextInt(60)) {
            case 0:
                return least - 1;
            case 1:
                return most + 1;
            case 2:
                return random.nextInt();
            case 3:
                return least;
            case 4:
                return most;
            default:
                return to(least, most);
        }
    }

    private int to(int least, int most) {
        return least + random.nextInt(most - least + 1);
    }

    private void callNets(boolean fewMarks) {
        int marks = near(0, fewMarks ? 15 : 255);
        switch (random.nextInt(12)) {
            case 0: {
                int pit = near(0, 7);
                int v = near(0, 9);
                CHECK.due("salt", yard.salt(pit, v), slow.salt(pit, v));
                break;
            }
            case 1: {
                int salt = near(0, 9);
                int v = near(0, 50);
                CHECK.due("ripens", yard.ripens(salt, v), slow.ripens(salt, v));
                break;
            }
            case 2:
            case 3: {
                int pit = near(0, 7);
                int husks = near(1, 1000);
                int age = near(1, random.nextBoolean() ? 60 : 2000);
                CHECK.due("net", yard.net(pit, marks, husks, age), slow.net(pit, marks, husks, age));
                break;
            }
            case 4: {
                int n = random.nextInt(20) == 0 ? near(1, 100) : near(1, 8);
                CHECK.due("weeks", yard.weeks(n), slow.weeks(n));
                break;
            }
            case 5: {
                int net = near(0, 200);
                CHECK.due("pull", yard.pull(net), slow.pull(net));
                break;
            }
            case 6: {
                int pit = near(0, 7);
                CHECK.due("flood", yard.flood(pit), slow.flood(pit));
                break;
            }
            case 7: {
                int seen = marks & near(0, 255) & near(0, 255);
                int not = near(0, 255) & near(0, 255) & (random.nextInt(20) == 0 ? -1 : ~seen);
                int due = slow.find(seen, not);
                CHECK.due("find", yard.find(seen, not), due);
                if (due != -1) {
                    allFinds();
                }
                break;
            }
            default: {
                int net = near(0, 23);
                int what = near(0, 7);
                CHECK.due("netOf", yard.netOf(net, what), slow.netOf(net, what));
                break;
            }
        }
    }

    private void allFinds() {
        for (int find = -1; find <= 8; find++) {
            for (int what = 0; what <= 1; what++) {
                CHECK.due("found(" + find + ", " + what + ")", yard.found(find, what),
                        slow.found(find, what));
            }
        }
        for (int net = 0; net < 24; net++) {
            CHECK.due("netOf(" + net + ", 3)", yard.netOf(net, 3), slow.netOf(net, 3));
            CHECK.due("netOf(" + net + ", 6)", yard.netOf(net, 6), slow.netOf(net, 6));
        }
    }

    private void callOrders() {
        switch (random.nextInt(16)) {
            case 0: {
                int hours = near(0, 50);
                CHECK.due("change", yard.change(hours), slow.change(hours));
                break;
            }
            case 1:
                CHECK.due("clear", yard.clear(), slow.clear());
                break;
            case 2:
            case 3:
                CHECK.due("late", yard.late(), slow.late());
                break;
            case 4: {
                int i = near(0, 6);
                int what = near(0, 1);
                CHECK.due("spun", yard.spun(i, what), slow.spun(i, what));
                break;
            }
            default: {
                int sort = near(0, 3);
                int hours = near(1, random.nextBoolean() ? 5 : 100);
                int due = near(0, random.nextBoolean() ? 100 : 1000);
                int worth = near(1, 9);
                CHECK.due("order", yard.order(sort, hours, due, worth),
                        slow.order(sort, hours, due, worth));
                break;
            }
        }
    }

    private void callMats() {
        switch (random.nextInt(24)) {
            case 0:
                CHECK.due("away", yard.away(), slow.away());
                break;
            case 1:
            case 2:
            case 3:
                CHECK.due("opened", yard.opened(), slow.opened());
                break;
            case 4:
            case 5: {
                int cut = near(0, 7);
                CHECK.due("from", yard.from(cut), slow.from(cut));
                break;
            }
            case 6:
                for (int cut = 0; cut < 8; cut++) {
                    CHECK.due("from", yard.from(cut), slow.from(cut));
                }
                break;
            case 7:
            case 8:
            case 9:
            case 10:
            case 11:
            case 12: {
                int length = random.nextBoolean() ? near(5, 12) : near(1, 500);
                int mat = near(0, 3);
                CHECK.due("cut", yard.cut(length, mat), slow.cut(length, mat));
                break;
            }
            default: {
                int length = random.nextBoolean() ? near(10, 30) : near(1, 1000);
                int lot = near(0, random.nextBoolean() ? 2 : 1);
                CHECK.due("roll", yard.roll(length, lot), slow.roll(length, lot));
                break;
            }
        }
    }

    private void callScale() {
        boolean high = random.nextBoolean();
        switch (random.nextInt(4)) {
            case 0: {
                int weight = near(1, random.nextBoolean() ? 30 : 10000);
                int read = weight * (1000 + trueError) / 1000 + (random.nextInt(9) == 0 ? 1 : 0);
                if (random.nextInt(6) == 0) {
                    read = near(0, 20000);
                }
                if (random.nextInt(6) == 0) {
                    CHECK.due("reading", yard.reading(weight, read), slow.reading(weight, read));
                }
                break;
            }
            case 1:
                CHECK.due("errs", yard.errs(high), slow.errs(high));
                break;
            default: {
                int read = random.nextBoolean() ? near(0, 12000) : near(0, 60);
                CHECK.due("back(" + read + ")", yard.back(read, high), slow.back(read, high));
                break;
            }
        }
    }
}
