/** Yards to begin a test with, and all that a yard tells. None is asked more than 512 calls. */
final class Yards {
    private Yards() {
    }

    /** Something of everything, nets in each state and room for more. */
    static HuskYard busy() {
        HuskYard yard = new HuskYard();
        for (int pit = 0; pit < 8; pit++) {
            yard.salt(pit, pit + 1);
            yard.net(pit, pit, 100 + pit, 40);
        }
        yard.ripens(4, 17);
        yard.weeks(7);
        yard.net(0, 32, 10, 7);
        yard.net(1, 64, 11, 7);
        yard.net(2, 96, 12, 7);
        yard.net(3, 128, 13, 7);
        yard.weeks(1);
        yard.pull(7);
        yard.pull(8);
        yard.flood(1);
        yard.flood(2);
        yard.find(64, 32);
        yard.find(0, 128);
        yard.change(5);
        yard.order(1, 10, 12, 2);
        yard.order(2, 20, 30, 3);
        yard.order(1, 5, 25, 9);
        yard.roll(100, 0);
        yard.roll(70, 1);
        yard.roll(60, 1);
        yard.cut(50, 0);
        yard.cut(40, 0);
        yard.cut(30, 2);
        yard.reading(100, 104);
        yard.reading(7, 7);
        return yard;
    }

    /** As many of everything as there may be, and the clock at its end. */
    static HuskYard full() {
        HuskYard yard = busy();
        for (int i = 0; i < 24; i++) {
            yard.net(i % 8, i * 7, 1 + i, 1 + i);
            yard.order(i % 4, 1 + i, i * 30, 1 + i % 9);
            yard.roll(100 + i, i % 3);
            yard.cut(20 + i, i % 4);
            yard.reading(100, 104);
        }
        yard.flood(0);
        yard.flood(5);
        yard.flood(6);
        for (int i = 0; i < 8; i++) {
            yard.find(0, 0);
        }
        for (int i = 0; i < 4; i++) {
            yard.weeks(100);
        }
        yard.weeks(92);
        return yard;
    }

    /** Nets with these marks, of 1 husk and age 1, all afloat. */
    static HuskYard afloat(int... marks) {
        HuskYard yard = new HuskYard();
        for (int set : marks) {
            yard.net(0, set, 1, 1);
        }
        yard.flood(0);
        return yard;
    }

    /** All that the yard answers, and what it answers when it goes on: some 310 calls. */
    static int[] told(HuskYard yard) {
        int[] told = new int[400];
        int n = tellNow(yard, told);
        n = tellRates(yard, told, n);
        told[n++] = yard.weeks(1);
        for (int net = 0; net < 24; net++) {
            told[n++] = yard.netOf(net, 1);
        }
        told[n++] = yard.net(0, 0, 1, 1);
        told[n++] = yard.flood(3);
        told[n++] = yard.find(0, 0);
        told[n++] = yard.order(3, 1, 0, 1);
        told[n++] = yard.late();
        told[n++] = yard.roll(1, 0);
        told[n++] = yard.cut(1, 0);
        told[n++] = yard.reading(100, 104);
        told[n++] = yard.clear();
        told[n++] = yard.order(3, 1, 0, 1);
        told[n++] = yard.late();
        told[n] = yard.away();
        return told;
    }

    private static int tellNow(HuskYard yard, int[] told) {
        int n = 0;
        for (int what = 0; what <= 9; what++) {
            told[n++] = yard.about(what);
        }
        for (int net = 0; net < 24; net++) {
            for (int what = 0; what <= 7; what++) {
                told[n++] = yard.netOf(net, what);
            }
        }
        for (int i = 0; i < 8; i++) {
            told[n++] = yard.found(i, 0);
            told[n++] = yard.found(i, 1);
            told[n++] = yard.spun(i, 0);
            told[n++] = yard.spun(i, 1);
            told[n++] = yard.from(i);
        }
        told[n++] = yard.late();
        told[n++] = yard.opened();
        told[n++] = yard.errs(false);
        told[n++] = yard.errs(true);
        told[n++] = yard.back(100, false);
        told[n++] = yard.back(100, true);
        return n;
    }

    /** Pit 6 gets each salt in turn: how soon its net is ripe tells what the salt ripens. */
    private static int tellRates(HuskYard yard, int[] told, int from) {
        int n = from;
        int net = yard.net(6, 0, 1, 2000);
        told[n++] = net;
        for (int salt = 0; salt <= 9; salt++) {
            yard.salt(6, salt);
            told[n++] = yard.netOf(net, 7);
        }
        return n;
    }
}
