/** A husk yard: nets in salt lagoons, orders to spin, mats to cut and a dealer's scale. */
public final class HuskYard {
    /** None. */
    public static final int NONE = -1;

    private final Nets nets;
    private final Finds finds;
    private final SpinYard spinYard;
    private final MatRoom matRoom;
    private final Scale scale;

    public HuskYard() {
        nets = new Nets();
        finds = new Finds();
        spinYard = new SpinYard();
        matRoom = new MatRoom();
        scale = new Scale();
    }

    public boolean salt(int pit, int v) {
        return nets.setSalt(pit, v);
    }

    public boolean ripens(int salt, int v) {
        return nets.setRipens(salt, v);
    }

    public int net(int pit, int marks, int husks, int age) {
        return nets.putIn(pit, marks, husks, age);
    }

    public int weeks(int n) {
        return nets.goBy(n);
    }

    public int pull(int net) {
        return nets.takeOut(net);
    }

    public int flood(int pit) {
        return nets.floatOff(pit);
    }

    public int find(int seen, int not) {
        if (!isMarks(seen) || !isMarks(not) || (seen & not) != 0) {
            return NONE;
        }
        int told = finds.tell(nets.afloatWith(seen, not));
        if (told != NONE) {
            bringBackTheSure();
        }
        return told;
    }

    public int found(int find, int what) {
        switch (what) {
            case 0:
                return finds.howManyFit(find);
            case 1:
                return finds.sureNet(find);
            default:
                return NONE;
        }
    }

    public int netOf(int net, int what) {
        return what == 6 ? finds.sureFind(net) : nets.tellOf(net, what);
    }

    public int order(int sort, int hours, int due, int worth) {
        return spinYard.take(sort, hours, due, worth);
    }

    public boolean change(int hours) {
        return spinYard.setChange(hours);
    }

    public int late() {
        return spinYard.leastLate();
    }

    public int spun(int i, int what) {
        switch (what) {
            case 0:
                return spinYard.orderAt(i);
            case 1:
                return spinYard.endAt(i);
            default:
                return NONE;
        }
    }

    public int clear() {
        return spinYard.dropOrders();
    }

    public int roll(int length, int lot) {
        return matRoom.addRoll(length, lot);
    }

    public int cut(int length, int mat) {
        return matRoom.addCut(length, mat);
    }

    public int opened() {
        return matRoom.leastOpened();
    }

    public int from(int cut) {
        return matRoom.rollUnder(cut);
    }

    public int away() {
        return matRoom.dropAll();
    }

    public int reading(int weight, int read) {
        return scale.tell(weight, read);
    }

    public int errs(boolean high) {
        return scale.bound(high);
    }

    public int back(int read, boolean high) {
        return scale.weightFor(read, high);
    }

    public int about(int what) {
        switch (what) {
            case 0:
                return nets.clock();
            case 1:
                return nets.count();
            case 2:
                return finds.count();
            case 3:
                return spinYard.count();
            case 4:
                return matRoom.rollCount();
            case 5:
                return matRoom.cutCount();
            case 6:
                return scale.count();
            case 7:
                return nets.huskTotal();
            case 8:
                return nets.countIn(Nets.AFLOAT);
            case 9:
                return nets.countIn(Nets.BACK);
            default:
                return NONE;
        }
    }

    private void bringBackTheSure() {
        for (int find = 0; find < finds.count(); find++) {
            nets.comeBack(finds.sureNet(find));
        }
    }

    private static boolean isMarks(int set) {
        return within(set, 0, 255);
    }

    private static boolean within(int v, int least, int greatest) {
        return v >= least && v <= greatest;
    }

    /** The pits, the nets that were laid into them, and the clock. */
    private static final class Nets {
        static final int IN = 0;
        static final int PULLED = 1;
        static final int AFLOAT = 2;
        static final int BACK = 3;

        private static final int MOST = 24;
        private static final int PITS = 8;
        private static final int SALTS = 10;
        private static final int LAST_WEEK = 500;

        private final int[] salts = new int[PITS];
        private final int[] rates = new int[SALTS];
        private final int[] pits = new int[MOST];
        private final int[] marks = new int[MOST];
        private final int[] husks = new int[MOST];
        private final int[] ages = new int[MOST];
        private final int[] points = new int[MOST];
        private final int[] states = new int[MOST];
        private int count;
        private int week;
        private int ripeHusks;

        Nets() {
            for (int salt = 0; salt < SALTS; salt++) {
                rates[salt] = 1 + salt;
            }
        }

        int count() {
            return count;
        }

        int clock() {
            return week;
        }

        int huskTotal() {
            return ripeHusks;
        }

        boolean setSalt(int pit, int v) {
            if (!isPit(pit) || !within(v, 0, SALTS - 1)) {
                return false;
            }
            salts[pit] = v;
            return true;
        }

        boolean setRipens(int salt, int v) {
            if (!within(salt, 0, SALTS - 1) || !within(v, 0, 50)) {
                return false;
            }
            rates[salt] = v;
            return true;
        }

        int putIn(int pit, int itsMarks, int itsHusks, int age) {
            if (!isPit(pit) || !isMarks(itsMarks) || !within(itsHusks, 1, 1000)
                    || !within(age, 1, 2000) || count >= MOST) {
                return NONE;
            }
            pits[count] = pit;
            marks[count] = itsMarks;
            husks[count] = itsHusks;
            ages[count] = age;
            points[count] = 0;
            states[count] = IN;
            count++;
            return count - 1;
        }

        int goBy(int n) {
            if (!within(n, 1, 100) || week + n > LAST_WEEK) {
                return NONE;
            }
            for (int net = 0; net < count; net++) {
                if (states[net] == IN) {
                    points[net] += n * rateAt(net);
                }
            }
            week += n;
            return week;
        }

        int takeOut(int net) {
            if (!isNet(net) || (states[net] != IN && states[net] != BACK)) {
                return NONE;
            }
            states[net] = PULLED;
            if (!isRipe(net)) {
                return 0;
            }
            ripeHusks += husks[net];
            return husks[net];
        }

        int floatOff(int pit) {
            if (!isPit(pit)) {
                return NONE;
            }
            int floating = 0;
            for (int net = 0; net < count; net++) {
                if (states[net] == IN && pits[net] == pit) {
                    states[net] = AFLOAT;
                    floating++;
                }
            }
            return floating;
        }

        /** The set (bits) of the nets now afloat with all marks of seen and none of unseen. */
        int afloatWith(int seen, int unseen) {
            int fitting = 0;
            for (int net = 0; net < count; net++) {
                boolean looksSo = (marks[net] & seen) == seen && (marks[net] & unseen) == 0;
                if (states[net] == AFLOAT && looksSo) {
                    fitting |= 1 << net;
                }
            }
            return fitting;
        }

        /** A net that is back already may have been pulled since: only one afloat comes back. */
        void comeBack(int net) {
            if (isNet(net) && states[net] == AFLOAT) {
                states[net] = BACK;
            }
        }

        int countIn(int state) {
            int such = 0;
            for (int net = 0; net < count; net++) {
                if (states[net] == state) {
                    such++;
                }
            }
            return such;
        }

        int tellOf(int net, int what) {
            if (!isNet(net)) {
                return NONE;
            }
            switch (what) {
                case 0:
                    return pits[net];
                case 1:
                    return points[net];
                case 2:
                    return isRipe(net) ? 1 : 0;
                case 3:
                    return states[net];
                case 4:
                    return marks[net];
                case 5:
                    return husks[net];
                case 7:
                    return weeksToRipe(net);
                default:
                    return NONE;
            }
        }

        private int weeksToRipe(int net) {
            if (states[net] != IN) {
                return NONE;
            }
            if (isRipe(net)) {
                return 0;
            }
            int rate = rateAt(net);
            if (rate <= 0) {
                return NONE;
            }
            return (ages[net] - points[net] + rate - 1) / rate;
        }

        private int rateAt(int net) {
            return rates[salts[pits[net]]];
        }

        private boolean isRipe(int net) {
            return points[net] >= ages[net];
        }

        private boolean isNet(int net) {
            return within(net, 0, count - 1);
        }

        private static boolean isPit(int pit) {
            return within(pit, 0, PITS - 1);
        }
    }

    /** What was found again, and to which nets it may lead. */
    private static final class Finds {
        private static final int MOST = 8;

        private final int[] fits = new int[MOST];
        private final int[] sureNets = new int[MOST];
        private int count;

        int count() {
            return count;
        }

        /** Takes a find that fits this set of nets, unless no way would be left with it. */
        int tell(int fitting) {
            if (count >= MOST) {
                return NONE;
            }
            fits[count] = fitting;
            if (!hasWay(count + 1)) {
                return NONE;
            }
            count++;
            for (int find = 0; find < count; find++) {
                sureNets[find] = onlyOne(reachable(find));
            }
            return count - 1;
        }

        int howManyFit(int find) {
            return isFind(find) ? Integer.bitCount(fits[find]) : NONE;
        }

        int sureNet(int find) {
            return isFind(find) ? sureNets[find] : NONE;
        }

        int sureFind(int net) {
            if (net < 0) {
                return NONE;
            }
            for (int find = 0; find < count; find++) {
                if (sureNets[find] == net) {
                    return find;
                }
            }
            return NONE;
        }

        /** Hall's rule: a way is there just if no set of finds fits fewer nets than it has finds. */
        private boolean hasWay(int told) {
            int sets = 1 << told;
            for (int set = 1; set < sets; set++) {
                if (Integer.bitCount(fittedBy(set)) < Integer.bitCount(set)) {
                    return false;
                }
            }
            return true;
        }

        /**
         * The nets to which some way leads the find. Finds that fit just as many nets as they are
         * need all of these themselves, and by Hall's rule nothing else bars a net.
         */
        private int reachable(int find) {
            int open = fits[find];
            int sets = 1 << count;
            for (int set = 1; set < sets; set++) {
                boolean ofOthers = ((set >> find) & 1) == 0;
                int fitted = fittedBy(set);
                if (ofOthers && Integer.bitCount(fitted) == Integer.bitCount(set)) {
                    open &= ~fitted;
                }
            }
            return open;
        }

        private int fittedBy(int set) {
            int together = 0;
            for (int find = 0; find < MOST; find++) {
                if (((set >> find) & 1) != 0) {
                    together |= fits[find];
                }
            }
            return together;
        }

        private static int onlyOne(int set) {
            return Integer.bitCount(set) == 1 ? Integer.numberOfTrailingZeros(set) : NONE;
        }

        private boolean isFind(int find) {
            return within(find, 0, count - 1);
        }
    }

    /** The orders of the yard and the best row to spin them in. */
    private static final class SpinYard {
        private static final int MOST = 7;
        // Above what seven orders can come to: 7 * 9 * (7 * 150).
        private static final int TOO_LATE = 1000000;

        private final int[] sorts = new int[MOST];
        private final int[] hours = new int[MOST];
        private final int[] dues = new int[MOST];
        private final int[] worths = new int[MOST];
        private final int[] row = new int[MOST];
        private final int[] best = new int[MOST];
        private int count;
        private int changeHours = 2;
        private int bestLate;
        private boolean planned;

        int count() {
            return count;
        }

        int take(int sort, int itsHours, int due, int worth) {
            if (!within(sort, 0, 3) || !within(itsHours, 1, 100) || !within(due, 0, 1000)
                    || !within(worth, 1, 9) || count >= MOST) {
                return NONE;
            }
            sorts[count] = sort;
            hours[count] = itsHours;
            dues[count] = due;
            worths[count] = worth;
            count++;
            planned = false;
            return count - 1;
        }

        boolean setChange(int newHours) {
            if (!within(newHours, 0, 50)) {
                return false;
            }
            changeHours = newHours;
            planned = false;
            return true;
        }

        int dropOrders() {
            int dropped = count;
            count = 0;
            planned = false;
            return dropped;
        }

        int leastLate() {
            plan();
            return bestLate;
        }

        int orderAt(int place) {
            if (!within(place, 0, count - 1)) {
                return NONE;
            }
            plan();
            return best[place];
        }

        int endAt(int place) {
            if (!within(place, 0, count - 1)) {
                return NONE;
            }
            plan();
            int hour = 0;
            int sort = 0;
            for (int i = 0; i <= place; i++) {
                hour = endOf(best[i], hour, sort);
                sort = sorts[best[i]];
            }
            return hour;
        }

        private void plan() {
            if (planned) {
                return;
            }
            planned = true;
            bestLate = TOO_LATE;
            tryPlace(0, 0, 0, 0, 0);
        }

        /** Goes through the rows first by numbers first, so of like ones the first is kept. */
        private void tryPlace(int place, int used, int hour, int sort, int late) {
            if (place >= count) {
                keepRow(late);
                return;
            }
            for (int order = 0; order < count; order++) {
                if (((used >> order) & 1) == 0) {
                    row[place] = order;
                    tryRest(place, used | (1 << order), hour, sort, late);
                }
            }
        }

        /** A row that is as late as the best already is left: orders behind make it no better. */
        private void tryRest(int place, int used, int hour, int sort, int late) {
            int order = row[place];
            int end = endOf(order, hour, sort);
            int lateNow = late + Math.max(0, end - dues[order]) * worths[order];
            if (lateNow < bestLate) {
                tryPlace(place + 1, used, end, sorts[order], lateNow);
            }
        }

        private void keepRow(int late) {
            bestLate = late;
            for (int i = 0; i < count; i++) {
                best[i] = row[i];
            }
        }

        private int endOf(int order, int hour, int sort) {
            int begin = sorts[order] == sort ? hour : hour + changeHours;
            return begin + hours[order];
        }
    }

    /** The rolls, the cuts, and the least lay. Sets of cuts and of mats are held as bits. */
    private static final class MatRoom {
        private static final int MOST_ROLLS = 6;
        private static final int MOST_CUTS = 8;
        private static final int LOTS = 3;
        private static final int MATS = 4;
        private static final int MAT_SETS = 1 << MATS;
        // Above all rolls together, and far from overflow when a few are added.
        private static final int TOO_MUCH = 1000000;

        private final int[] rollLengths = new int[MOST_ROLLS];
        private final int[] rollLots = new int[MOST_ROLLS];
        private final int[] cutLengths = new int[MOST_CUTS];
        private final int[] cutMats = new int[MOST_CUTS];
        private final int[] rollOf = new int[MOST_CUTS];
        private final int[] lengthOfSet = new int[1 << MOST_CUTS];
        private final int[] packed = new int[1 << MOST_CUTS];
        private final int[] joined = new int[MAT_SETS];
        private int rolls;
        private int cuts;
        private int least;
        private boolean laid;

        int rollCount() {
            return rolls;
        }

        int cutCount() {
            return cuts;
        }

        int addRoll(int length, int lot) {
            if (!within(length, 1, 1000) || !within(lot, 0, LOTS - 1) || rolls >= MOST_ROLLS) {
                return NONE;
            }
            rollLengths[rolls] = length;
            rollLots[rolls] = lot;
            rolls++;
            laid = false;
            return rolls - 1;
        }

        int addCut(int length, int mat) {
            if (!within(length, 1, 500) || !within(mat, 0, MATS - 1) || cuts >= MOST_CUTS) {
                return NONE;
            }
            cutLengths[cuts] = length;
            cutMats[cuts] = mat;
            cuts++;
            laid = false;
            return cuts - 1;
        }

        int dropAll() {
            int dropped = cuts;
            rolls = 0;
            cuts = 0;
            laid = false;
            return dropped;
        }

        int leastOpened() {
            lay();
            return least;
        }

        int rollUnder(int cut) {
            if (!within(cut, 0, cuts - 1)) {
                return NONE;
            }
            lay();
            return least == NONE ? NONE : rollOf[cut];
        }

        private void lay() {
            if (laid) {
                return;
            }
            laid = true;
            measureSets();
            least = leastWith(0);
            if (least >= TOO_MUCH) {
                least = NONE;
                return;
            }
            for (int cut = 0; cut < cuts; cut++) {
                layOnLowestRoll(cut);
            }
        }

        private void measureSets() {
            int sets = 1 << cuts;
            for (int set = 0; set < sets; set++) {
                int length = 0;
                for (int cut = 0; cut < cuts; cut++) {
                    length += ((set >> cut) & 1) * cutLengths[cut];
                }
                lengthOfSet[set] = length;
            }
        }

        /** The lowest roll with which the cuts behind can still be laid with the least opened. */
        private void layOnLowestRoll(int cut) {
            for (int roll = 0; roll < rolls; roll++) {
                rollOf[cut] = roll;
                if (leastWith(cut + 1) == least) {
                    return;
                }
            }
        }

        /** The least opened if the cuts below fixed lie as rollOf tells; TOO_MUCH if none can lie so. */
        private int leastWith(int fixed) {
            int openedByFixed = 0;
            for (int roll = 0; roll < rolls; roll++) {
                int used = usedOf(roll, fixed);
                if (used > rollLengths[roll]) {
                    return TOO_MUCH;
                }
                openedByFixed += used > 0 ? rollLengths[roll] : 0;
            }
            for (int mats = 1; mats < MAT_SETS; mats++) {
                joined[mats] = TOO_MUCH;
            }
            joined[0] = 0;
            for (int lot = 0; lot < LOTS; lot++) {
                packLot(lot, fixed);
                joinLot(lot, fixed);
            }
            return Math.min(TOO_MUCH, openedByFixed + joined[MAT_SETS - 1]);
        }

        private int usedOf(int roll, int fixed) {
            int used = 0;
            for (int cut = 0; cut < fixed; cut++) {
                if (rollOf[cut] == roll) {
                    used += cutLengths[cut];
                }
            }
            return used;
        }

        /** Fills packed: for each set of cuts from fixed on, the least more to open of the lot. */
        private void packLot(int lot, int fixed) {
            int all = (1 << (cuts - fixed)) - 1;
            for (int set = 1; set <= all; set++) {
                packed[set] = TOO_MUCH;
            }
            packed[0] = 0;
            for (int roll = 0; roll < rolls; roll++) {
                if (rollLots[roll] == lot) {
                    int used = usedOf(roll, fixed);
                    int price = used > 0 ? 0 : rollLengths[roll];
                    packRoll(rollLengths[roll] - used, price, fixed, all);
                }
            }
        }

        /** Larger sets go first: the smaller ones that they look at are still without this roll. */
        private void packRoll(int rest, int price, int fixed, int all) {
            for (int set = all; set > 0; set--) {
                int best = packed[set];
                // (part - 1) & set is always below part: each part comes once, and none behind 0.
                for (int part = set; part > 0; part = (part - 1) & set) {
                    int opened = packed[set ^ part] + price;
                    if (opened < best && lengthOfSet[part << fixed] <= rest) {
                        best = opened;
                    }
                }
                packed[set] = best;
            }
        }

        /** Brings the lot into joined: for each set of mats, the least more to open of the lots so far. */
        private void joinLot(int lot, int fixed) {
            for (int mats = MAT_SETS - 1; mats > 0; mats--) {
                int best = joined[mats];
                for (int part = mats; part > 0; part = (part - 1) & mats) {
                    int set = cutsToLay(part, lot, fixed);
                    if (set != NONE) {
                        best = Math.min(best, joined[mats ^ part] + packed[set]);
                    }
                }
                joined[mats] = best;
            }
        }

        /** The cuts from fixed on of these mats; NONE if a cut below fixed holds one to another lot. */
        private int cutsToLay(int mats, int lot, int fixed) {
            int set = 0;
            for (int cut = 0; cut < cuts; cut++) {
                if (((mats >> cutMats[cut]) & 1) != 0) {
                    if (cut >= fixed) {
                        set |= 1 << (cut - fixed);
                    } else if (rollLots[rollOf[cut]] != lot) {
                        return NONE;
                    }
                }
            }
            return set;
        }
    }

    /** The dealer's scale: what is known of its error in thousandths. */
    private static final class Scale {
        private static final int MOST = 20;
        private static final int MOST_WEIGHT = 10000;
        private static final int MOST_READ = 20000;

        private int low = -200;
        private int high = 200;
        private int count;

        int count() {
            return count;
        }

        int bound(boolean upper) {
            return upper ? high : low;
        }

        /** What is read grows with the error, so the errors that do are all from one to another. */
        int tell(int weight, int read) {
            if (!within(weight, 1, MOST_WEIGHT) || !within(read, 0, MOST_READ) || count >= MOST) {
                return NONE;
            }
            int first = low;
            while (first <= high && readBy(weight, first) < read) {
                first++;
            }
            int last = high;
            while (last >= low && readBy(weight, last) > read) {
                last--;
            }
            if (first > last) {
                return NONE;
            }
            low = first;
            high = last;
            count++;
            return count;
        }

        int weightFor(int read, boolean greatest) {
            if (!within(read, 0, MOST_READ)) {
                return NONE;
            }
            return greatest ? greatestWeight(read) : leastWeight(read);
        }

        private int leastWeight(int read) {
            int least = NONE;
            for (int error = low; error <= high; error++) {
                int weight = weightsBelow(read, error) + 1;
                if (isReadSo(weight, read, error) && (least == NONE || weight < least)) {
                    least = weight;
                }
            }
            return least;
        }

        private int greatestWeight(int read) {
            int greatest = NONE;
            for (int error = low; error <= high; error++) {
                int weight = Math.min(MOST_WEIGHT, weightsBelow(read + 1, error));
                if (isReadSo(weight, read, error) && weight > greatest) {
                    greatest = weight;
                }
            }
            return greatest;
        }

        private static int readBy(int weight, int error) {
            return weight * (1000 + error) / 1000;
        }

        private static boolean isReadSo(int weight, int read, int error) {
            return within(weight, 1, MOST_WEIGHT) && readBy(weight, error) == read;
        }

        /** How many weights from 1 on are read as less than this. */
        private static int weightsBelow(int read, int error) {
            int thousandths = 1000 + error;
            if (read <= 0 || thousandths <= 0) {
                return 0;
            }
            return (read * 1000 - 1) / thousandths;
        }
    }
}
