import java.util.ArrayList;
import java.util.List;

/** The document again, by trying everything out: slow, with nothing remembered between calls. */
final class SlowYard {
    private final int[] salts = new int[8];
    private final int[] rates = new int[10];
    private final List<int[]> nets = new ArrayList<>(); // pit, marks, husks, age, points, state
    private final List<List<Integer>> finds = new ArrayList<>(); // the nets that each fits
    private final List<int[]> orders = new ArrayList<>(); // sort, hours, due, worth
    private final List<int[]> rolls = new ArrayList<>(); // length, lot
    private final List<int[]> cuts = new ArrayList<>(); // length, mat
    private final List<int[]> readings = new ArrayList<>(); // weight, read
    private int week;
    private int change = 2;
    private int husks;

    SlowYard() {
        for (int salt = 0; salt < 10; salt++) {
            rates[salt] = salt + 1;
        }
    }

    private static boolean out(int v, int least, int most) {
        return v < least || v > most;
    }

    boolean salt(int pit, int v) {
        if (out(pit, 0, 7) || out(v, 0, 9)) {
            return false;
        }
        salts[pit] = v;
        return true;
    }

    boolean ripens(int salt, int v) {
        if (out(salt, 0, 9) || out(v, 0, 50)) {
            return false;
        }
        rates[salt] = v;
        return true;
    }

    int net(int pit, int marks, int husks, int age) {
        if (out(pit, 0, 7) || out(marks, 0, 255) || out(husks, 1, 1000) || out(age, 1, 2000)
                || nets.size() == 24) {
            return -1;
        }
        nets.add(new int[] {pit, marks, husks, age, 0, 0});
        return nets.size() - 1;
    }

    int weeks(int n) {
        if (out(n, 1, 100) || week + n > 500) {
            return -1;
        }
        for (int i = 0; i < n; i++) {
            week++;
            for (int[] net : nets) {
                if (net[5] == 0) {
                    net[4] += rates[salts[net[0]]];
                }
            }
        }
        return week;
    }

    int pull(int n) {
        if (out(n, 0, nets.size() - 1)) {
            return -1;
        }
        int[] net = nets.get(n);
        if (net[5] == 1 || net[5] == 2) {
            return -1;
        }
        net[5] = 1;
        int got = net[4] >= net[3] ? net[2] : 0;
        husks += got;
        return got;
    }

    int flood(int pit) {
        if (out(pit, 0, 7)) {
            return -1;
        }
        int off = 0;
        for (int[] net : nets) {
            if (net[5] == 0 && net[0] == pit) {
                net[5] = 2;
                off++;
            }
        }
        return off;
    }

    int find(int seen, int not) {
        if (out(seen, 0, 255) || out(not, 0, 255) || (seen & not) != 0 || finds.size() == 8) {
            return -1;
        }
        List<Integer> fitting = new ArrayList<>();
        for (int n = 0; n < nets.size(); n++) {
            int[] net = nets.get(n);
            if (net[5] == 2 && (net[1] | seen) == net[1] && (net[1] & not) == 0) {
                fitting.add(n);
            }
        }
        finds.add(fitting);
        if (!hasWay(0, 0, -1, -1)) {
            finds.remove(finds.size() - 1);
            return -1;
        }
        for (int f = 0; f < finds.size(); f++) {
            int sure = sureOf(f);
            if (sure >= 0 && nets.get(sure)[5] == 2) {
                nets.get(sure)[5] = 3;
            }
        }
        return finds.size() - 1;
    }

    /** Whether the finds from f on can be led to nets not yet used, find 'only' to 'to' alone. */
    private boolean hasWay(int f, int used, int only, int to) {
        if (f == finds.size()) {
            return true;
        }
        for (int n : finds.get(f)) {
            if ((used >> n & 1) == 0 && (f != only || n == to)
                    && hasWay(f + 1, used | 1 << n, only, to)) {
                return true;
            }
        }
        return false;
    }

    private int sureOf(int f) {
        int sure = -1;
        for (int n : finds.get(f)) {
            if (hasWay(0, 0, f, n)) {
                if (sure >= 0) {
                    return -1;
                }
                sure = n;
            }
        }
        return sure;
    }

    int found(int find, int what) {
        if (out(find, 0, finds.size() - 1)) {
            return -1;
        }
        return what == 0 ? finds.get(find).size() : what == 1 ? sureOf(find) : -1;
    }

    int netOf(int n, int what) {
        if (out(n, 0, nets.size() - 1)) {
            return -1;
        }
        int[] net = nets.get(n);
        switch (what) {
            case 0: return net[0];
            case 1: return net[4];
            case 2: return net[4] >= net[3] ? 1 : 0;
            case 3: return net[5];
            case 4: return net[1];
            case 5: return net[2];
            case 6:
                for (int f = 0; f < finds.size(); f++) {
                    if (sureOf(f) == n) {
                        return f;
                    }
                }
                return -1;
            case 7:
                if (net[5] != 0) {
                    return -1;
                }
                for (int w = 0; w <= 2000; w++) {
                    if (net[4] + w * rates[salts[net[0]]] >= net[3]) {
                        return w;
                    }
                }
                return -1;
            default: return -1;
        }
    }

    int order(int sort, int hours, int due, int worth) {
        if (out(sort, 0, 3) || out(hours, 1, 100) || out(due, 0, 1000) || out(worth, 1, 9)
                || orders.size() == 7) {
            return -1;
        }
        orders.add(new int[] {sort, hours, due, worth});
        return orders.size() - 1;
    }

    boolean change(int hours) {
        if (out(hours, 0, 50)) {
            return false;
        }
        change = hours;
        return true;
    }

    private int[] bestRow;
    private int[] bestEnds;
    private int bestLate;

    private void spin() {
        bestLate = Integer.MAX_VALUE;
        int n = orders.size();
        spinFrom(0, new int[n], new int[n], new boolean[n]);
    }

    private void spinFrom(int place, int[] row, int[] ends, boolean[] used) {
        if (place == row.length) {
            int late = 0;
            for (int i = 0; i < row.length; i++) {
                int[] order = orders.get(row[i]);
                late += Math.max(0, ends[i] - order[2]) * order[3];
            }
            if (late < bestLate) {
                bestLate = late;
                bestRow = row.clone();
                bestEnds = ends.clone();
            }
            return;
        }
        int hour = place == 0 ? 0 : ends[place - 1];
        int sort = place == 0 ? 0 : orders.get(row[place - 1])[0];
        for (int o = 0; o < used.length; o++) {
            if (!used[o]) {
                used[o] = true;
                row[place] = o;
                ends[place] = hour + (orders.get(o)[0] != sort ? change : 0) + orders.get(o)[1];
                spinFrom(place + 1, row, ends, used);
                used[o] = false;
            }
        }
    }

    int late() {
        spin();
        return bestLate;
    }

    int spun(int i, int what) {
        if (out(i, 0, orders.size() - 1) || out(what, 0, 1)) {
            return -1;
        }
        spin();
        return what == 0 ? bestRow[i] : bestEnds[i];
    }

    int clear() {
        int n = orders.size();
        orders.clear();
        return n;
    }

    int roll(int length, int lot) {
        if (out(length, 1, 1000) || out(lot, 0, 2) || rolls.size() == 6) {
            return -1;
        }
        rolls.add(new int[] {length, lot});
        return rolls.size() - 1;
    }

    int cut(int length, int mat) {
        if (out(length, 1, 500) || out(mat, 0, 3) || cuts.size() == 8) {
            return -1;
        }
        cuts.add(new int[] {length, mat});
        return cuts.size() - 1;
    }

    private int[] leastLay;
    private int leastOpened;

    private void lay() {
        leastOpened = Integer.MAX_VALUE;
        layFrom(0, new int[cuts.size()]);
    }

    private void layFrom(int cut, int[] lay) {
        if (cut == lay.length) {
            int opened = openedBy(lay);
            if (opened < leastOpened) {
                leastOpened = opened;
                leastLay = lay.clone();
            }
            return;
        }
        for (int r = 0; r < rolls.size(); r++) {
            lay[cut] = r;
            if (mayLie(cut, lay)) {
                layFrom(cut + 1, lay);
            }
        }
    }

    private boolean mayLie(int cut, int[] lay) {
        int used = 0;
        for (int c = 0; c <= cut; c++) {
            if (lay[c] == lay[cut]) {
                used += cuts.get(c)[0];
            }
            if (cuts.get(c)[1] == cuts.get(cut)[1]
                    && rolls.get(lay[c])[1] != rolls.get(lay[cut])[1]) {
                return false;
            }
        }
        return used <= rolls.get(lay[cut])[0];
    }

    private int openedBy(int[] lay) {
        int opened = 0;
        for (int r = 0; r < rolls.size(); r++) {
            boolean open = false;
            for (int roll : lay) {
                open |= roll == r;
            }
            opened += open ? rolls.get(r)[0] : 0;
        }
        return opened;
    }

    int opened() {
        lay();
        return leastOpened == Integer.MAX_VALUE ? -1 : leastOpened;
    }

    int from(int cut) {
        if (out(cut, 0, cuts.size() - 1)) {
            return -1;
        }
        lay();
        return leastOpened == Integer.MAX_VALUE ? -1 : leastLay[cut];
    }

    int away() {
        int n = cuts.size();
        rolls.clear();
        cuts.clear();
        return n;
    }

    private boolean errsBy(int e) {
        for (int[] reading : readings) {
            if (reading[0] * (1000 + e) / 1000 != reading[1]) {
                return false;
            }
        }
        return true;
    }

    int reading(int weight, int read) {
        if (out(weight, 1, 10000) || out(read, 0, 20000) || readings.size() == 20) {
            return -1;
        }
        readings.add(new int[] {weight, read});
        if (errs(true) == Integer.MIN_VALUE) {
            readings.remove(readings.size() - 1);
            return -1;
        }
        return readings.size();
    }

    int errs(boolean high) {
        for (int i = 0; i <= 400; i++) {
            int e = high ? 200 - i : i - 200;
            if (errsBy(e)) {
                return e;
            }
        }
        return Integer.MIN_VALUE;
    }

    int back(int read, boolean high) {
        int low = errs(false);
        int most = errs(true);
        for (int i = 1; i <= 10000; i++) {
            int w = high ? 10001 - i : i;
            if (w * (1000 + low) / 1000 > read || w * (1000 + most) / 1000 < read) {
                continue;
            }
            for (int e = low; e <= most; e++) {
                if (w * (1000 + e) / 1000 == read) {
                    return w;
                }
            }
        }
        return -1;
    }

    int about(int what) {
        switch (what) {
            case 0: return week;
            case 1: return nets.size();
            case 2: return finds.size();
            case 3: return orders.size();
            case 4: return rolls.size();
            case 5: return cuts.size();
            case 6: return readings.size();
            case 7: return husks;
            case 8: return (int) nets.stream().filter(net -> net[5] == 2).count();
            case 9: return (int) nets.stream().filter(net -> net[5] == 3).count();
            default: return -1;
        }
    }
}
