/**
 * Net reliability desk: the chance that a source reaches its goals over links that are up by chance.
 * Every row that a call needs is made with the object, so that no call makes an object or an array.
 */
public final class LinkChances {
    public static final int NONE = -1, BAD = -2, NOT = -3, FULL = -4, OVER = -5;

    private static final int MOST_LINKS = 10, MOST_STATIONS = 7, MOST_SETS = 1 << MOST_LINKS;
    private static final long LEAST_LONG = 1L << 63, GREATEST_LONG = ~LEAST_LONG;

    private final Net net;
    private final Odds odds;
    private final SetCounts counts;
    private final Shared shared;
    private final CutAndJoin cutAndJoin;
    private final Orders orders;
    private final Sheets sheets;

    public LinkChances() {
        net = new Net();
        odds = new Odds(net);
        counts = new SetCounts(net);
        shared = new Shared(net);
        cutAndJoin = new CutAndJoin(net);
        orders = new Orders(net);
        sheets = new Sheets();
    }

    // ---- the net

    public int stations(int n) {
        if (n < 2 || n > MOST_STATIONS) return BAD;
        int before = net.stationCount();
        net.renew(n);
        return before;
    }

    public int link(int a, int b, int p, int q) {
        if (!net.mayLink(a, b, p, q)) return BAD;
        if (!net.hasRoom()) return FULL;
        return net.addLink(a, b, p, q);
    }

    public int back() {
        if (net.linkCount() == 0) return NOT;
        return net.dropLast();
    }

    public int chance(int k, int p, int q) {
        if (!net.hasLink(k) || !Fractions.isChance(p, q)) return BAD;
        int before = 10 * net.aboveOf(k) + net.belowOf(k);
        net.setChance(k, p, q);
        return before;
    }

    public int see(int k, int v) {
        if (!net.hasLink(k) || v < 0 || v > 2) return BAD;
        int before = net.seenOf(k);
        net.setSeen(k, v);
        return before;
    }

    public int source(int s) {
        if (!net.hasStation(s)) return BAD;
        int before = net.sourceStation();
        net.setSource(s);
        return before;
    }

    public int goals(int bits) {
        if (bits < 0 || bits > net.allStations()) return BAD;
        int before = net.goalBits();
        net.setGoals(bits);
        return before;
    }

    public int info(int k, int what) {
        if (!net.hasLink(k)) return BAD;
        switch (what) {
            case 0: return net.lesserOf(k);
            case 1: return net.greaterOf(k);
            case 2: return net.aboveOf(k);
            case 3: return net.belowOf(k);
            case 4: return net.seenOf(k);
            default: return BAD;
        }
    }

    // ---- chances

    public long reach(int what) {
        if (!isSide(what)) return refused(BAD);
        odds.fill();
        return odds.told(odds.reachParts(), what);
    }

    public long joined(int what) {
        if (what < 0 || what > 4) return refused(BAD);
        cutAndJoin.askAll();
        return cutAndJoin.told(what);
    }

    public int wide(int k) {
        if (!net.hasLink(k)) return BAD;
        return shared.widthBehind(k);
    }

    public int widest() {
        return shared.greatestWidth();
    }

    public long pair(int a, int b, int what) {
        if (!net.hasStation(a) || !net.hasStation(b) || !isSide(what)) return refused(BAD);
        odds.fill();
        return odds.told(odds.pairParts(a, b), what);
    }

    public long rule(int what) {
        if (!isSide(what)) return refused(BAD);
        odds.fill();
        return odds.told(odds.ruleParts(), what);
    }

    public int sets(int k) {
        if (k < 0 || k > net.linkCount()) return BAD;
        counts.fill();
        return counts.ofSize(k);
    }

    public long like(int a, int b, int what) {
        if (b < 1 || b > 99 || a < 0 || a > b || !isSide(what)) return refused(BAD);
        counts.fill();
        return alike(a, b, what);
    }

    public int least(int what) {
        if (!isSide(what)) return BAD;
        return what == 0 ? counts.leastCut() : counts.leastWay();
    }

    // ---- worth

    public long worth(int k, int what) {
        if (!net.hasLink(k) || !isSide(what)) return refused(BAD);
        odds.fill();
        return odds.told(odds.worthParts(k), what);
    }

    public int worthiest() {
        odds.fill();
        return odds.worthiestLink();
    }

    public long better(int k, int p, int q, int what) {
        if (!net.hasLink(k) || !Fractions.isChance(p, q) || !isSide(what)) return refused(BAD);
        odds.fillWith(k, p, q);
        return odds.told(odds.reachParts(), what);
    }

    // ---- orders

    public int type(int b) {
        if (b < 0 || b > 255) return BAD;
        if (orders.isFull()) return FULL;
        return orders.append(b);
    }

    public int wipe() {
        return orders.clear();
    }

    public int obey() {
        return orders.run();
    }

    public int wrong() {
        return orders.latestFault();
    }

    // ---- sheets

    public int sheet(int s, int n) {
        if (!sheets.isSheet(s) || n > Sheets.MOST_ITEMS) return BAD;
        if (n < 0) return sheets.finding(Sheets.SIZE);
        return sheets.renew(s, n);
    }

    public int lose(int s) {
        int refusal = sheets.refusalOf(s);
        if (refusal != 0) return refusal;
        return sheets.drop(s);
    }

    public int lay(int s, int i, int v) {
        int refusal = sheets.refusalAt(s, i);
        if (refusal != 0) return refusal;
        sheets.put(s, i, v);
        return 1;
    }

    public long get(int s, int i) {
        int refusal = sheets.refusalAt(s, i);
        if (refusal != 0) return refused(refusal);
        return sheets.item(s, i);
    }

    public int copy(int s, int i, int t, int j, int n) {
        if (!sheets.isSheet(s) || !sheets.isSheet(t)) return BAD;
        if (sheets.isLost(s) || sheets.isLost(t)) return sheets.finding(Sheets.NULL);
        if (!sheets.holds(s, i, n) || !sheets.holds(t, j, n)) return sheets.finding(Sheets.INDEX);
        sheets.move(s, i, t, j, n);
        return 1;
    }

    public int read(int s) {
        int refusal = sheets.refusalOf(s);
        if (refusal != 0) return refusal;
        int whole = sheets.sizeOf(s) / 4;
        int done = 0;
        while (done < whole && net.hasRoom() && addFrom(s, 4 * done)) done++;
        return done;
    }

    public int write(int s) {
        int refusal = sheets.refusalOf(s);
        if (refusal != 0) return refusal;
        int numbers = Math.min(sheets.sizeOf(s), 2 * net.linkCount());
        odds.fill();
        for (int i = 0; i < numbers; i++) sheets.put(s, i, odds.told(odds.worthParts(i / 2), i % 2));
        return numbers;
    }

    public int count(int what) {
        switch (what) {
            case 0: return net.stationCount();
            case 1: return net.linkCount();
            case 2: return net.sourceStation();
            case 3: return net.goalBits();
            case 4: return Integer.bitCount(net.wantedStations());
            case 5: return Integer.bitCount(net.linksSeen(0));
            case 6: return net.reaches(net.allLinks() & ~net.linksSeen(2)) ? 1 : 0;
            case 7: return orders.length();
            case 8: return sheets.latestFinding();
            default: return BAD;
        }
    }

    public long digest() {
        odds.fill();
        counts.fill();
        cutAndJoin.askAll();
        long h = 17;
        for (int what = 0; what <= 7; what++) h = mixed(h, count(what));
        h = withLinks(h);
        h = withChances(h);
        h = withSets(h);
        h = mixed(h, odds.worthiestLink());
        h = withPairs(h);
        return mixed(h, orders.latestFault());
    }

    // ---- parts of the acts

    private static boolean isSide(int what) {
        return what == 0 || what == 1;
    }

    private static long refused(int refusal) {
        return LEAST_LONG - refusal;
    }

    private static long mixed(long h, long next) {
        return 31 * h + next;
    }

    /** Needs the sets counted: digest asks it three times of one count. */
    private long alike(int a, int b, int what) {
        long answer = counts.likeParts(a, b, what);
        return answer < 0 ? refused(OVER) : answer;
    }

    /** The items are longs, which must not be cut to int before they are tested. */
    private boolean addFrom(int s, int i) {
        long a = sheets.item(s, i), b = sheets.item(s, i + 1);
        long p = sheets.item(s, i + 2), q = sheets.item(s, i + 3);
        if (!net.mayLink(a, b, p, q)) return false;
        net.addLink((int) a, (int) b, (int) p, (int) q);
        return true;
    }

    private long withFraction(long h, long parts) {
        return mixed(mixed(h, odds.told(parts, 0)), odds.told(parts, 1));
    }

    private long withLinks(long h) {
        for (int k = 0; k < net.linkCount(); k++) {
            for (int what = 0; what <= 4; what++) h = mixed(h, info(k, what));
            h = mixed(h, shared.widthBehind(k));
            h = withFraction(h, odds.worthParts(k));
        }
        return h;
    }

    private long withChances(long h) {
        h = withFraction(h, odds.reachParts());
        for (int what = 0; what <= 4; what++) h = mixed(h, cutAndJoin.told(what));
        h = mixed(h, shared.greatestWidth());
        return withFraction(h, odds.ruleParts());
    }

    private long withSets(long h) {
        for (int k = 0; k <= net.linkCount(); k++) h = mixed(h, counts.ofSize(k));
        h = mixed(h, alike(1, 2, 0));
        h = mixed(h, alike(1, 2, 1));
        h = mixed(h, alike(9, 10, 0));
        h = mixed(h, counts.leastCut());
        return mixed(h, counts.leastWay());
    }

    private long withPairs(long h) {
        for (int a = 0; a < net.stationCount(); a++) {
            for (int b = a + 1; b < net.stationCount(); b++) h = withFraction(h, odds.pairParts(a, b));
        }
        return h;
    }

    /** Fractions are two longs each, above and below, so that no object is made for one. */
    private static final class Fractions {
        static boolean isChance(long p, long q) {
            return q >= 1 && q <= 9 && p >= 0 && p <= q;
        }

        /** The bound is above the 92 steps that Euclid needs for longs. */
        static long commonDivisor(long a, long b) {
            for (int step = 0; step < 100 && b != 0; step++) {
                long rest = a % b;
                a = b;
                b = rest;
            }
            return a;
        }

        static long told(long above, long below, int what) {
            long divisor = commonDivisor(above, below);
            if (divisor == 0) return what;
            return (what == 0 ? above : below) / divisor;
        }
    }

    /** Stations, links, source and goals, and what each set of links joins. */
    private static final class Net {
        private final int[] lessers = new int[MOST_LINKS];
        private final int[] greaters = new int[MOST_LINKS];
        private final int[] aboves = new int[MOST_LINKS];
        private final int[] belows = new int[MOST_LINKS];
        private final int[] seens = new int[MOST_LINKS];
        /**
         * For each set of links, as bits, seven bits a station: the stations that it is joined with.
         * Kept, because ends never change: a new link only adds the sets that it is in.
         */
        private final long[] joinings = new long[MOST_SETS];
        private int stationCount;
        private int linkCount;
        private int source;
        private int goals;

        Net() {
            for (int v = 0; v < MOST_STATIONS; v++) joinings[0] |= 1L << (MOST_STATIONS * v + v);
            stationCount = 4;
        }

        void renew(int n) {
            stationCount = n;
            linkCount = 0;
            source = 0;
            goals = 0;
        }

        int stationCount() {
            return stationCount;
        }

        int linkCount() {
            return linkCount;
        }

        int sourceStation() {
            return source;
        }

        int goalBits() {
            return goals;
        }

        int allStations() {
            return (1 << stationCount) - 1;
        }

        int allLinks() {
            return (1 << linkCount) - 1;
        }

        int wantedStations() {
            return goals | 1 << source;
        }

        boolean hasStation(long v) {
            return v >= 0 && v < stationCount;
        }

        boolean hasLink(int k) {
            return k >= 0 && k < linkCount && k < MOST_LINKS;
        }

        boolean hasRoom() {
            return linkCount < MOST_LINKS;
        }

        boolean mayLink(long a, long b, long p, long q) {
            return hasStation(a) && hasStation(b) && a != b && Fractions.isChance(p, q);
        }

        int addLink(int a, int b, int p, int q) {
            int k = linkCount;
            if (k < 0 || k >= MOST_LINKS) return FULL;
            lessers[k] = Math.min(a, b);
            greaters[k] = Math.max(a, b);
            aboves[k] = p;
            belows[k] = q;
            seens[k] = 0;
            linkCount++;
            addSetsWith(k);
            return k;
        }

        int dropLast() {
            if (linkCount > 0) linkCount--;
            return linkCount;
        }

        void setChance(int k, int p, int q) {
            if (!hasLink(k)) return;
            aboves[k] = p;
            belows[k] = q;
        }

        void setSeen(int k, int v) {
            if (hasLink(k)) seens[k] = v;
        }

        void setSource(int v) {
            source = v;
        }

        void setGoals(int bits) {
            goals = bits;
        }

        int lesserOf(int k) {
            return hasLink(k) ? lessers[k] : 0;
        }

        int greaterOf(int k) {
            return hasLink(k) ? greaters[k] : 0;
        }

        int aboveOf(int k) {
            return hasLink(k) ? aboves[k] : 0;
        }

        int belowOf(int k) {
            return hasLink(k) ? belows[k] : 1;
        }

        int seenOf(int k) {
            return hasLink(k) ? seens[k] : 0;
        }

        /** The chance with what is seen counted in: above, where wholeParts is below. */
        int upParts(int k) {
            int seen = seenOf(k);
            if (seen == 0) return aboveOf(k);
            return seen == 1 ? 1 : 0;
        }

        int wholeParts(int k) {
            return seenOf(k) == 0 ? belowOf(k) : 1;
        }

        /** The links, as bits, whose SEEN is v. */
        int linksSeen(int v) {
            int bits = 0;
            for (int k = 0; k < linkCount; k++) {
                if (seenOf(k) == v) bits |= 1 << k;
            }
            return bits;
        }

        int joinedWith(int set, int v) {
            if (set < 0 || set >= MOST_SETS) return 0;
            return stationsIn(joinings[set], v);
        }

        boolean reaches(int set) {
            return (wantedStations() & ~joinedWith(set, source)) == 0;
        }

        private static int stationsIn(long joining, int v) {
            return (int) (joining >>> (MOST_STATIONS * v)) & ((1 << MOST_STATIONS) - 1);
        }

        private void addSetsWith(int k) {
            int half = 1 << k;
            for (int set = 0; set < half && half + set < MOST_SETS; set++) {
                joinings[half + set] = joinedOver(joinings[set], lesserOf(k), greaterOf(k));
            }
        }

        private static long joinedOver(long joining, int a, int b) {
            int together = stationsIn(joining, a) | stationsIn(joining, b);
            for (int v = 0; v < MOST_STATIONS; v++) {
                if ((together >>> v & 1) != 0) joining |= (long) together << (MOST_STATIONS * v);
            }
            return joining;
        }
    }

    /**
     * Sums of the chances of sets. All are told in parts of one whole, the product of what is below,
     * which is at most 9 to the 10th: so no sum of parts leaves the longs, and parts compare as they are.
     */
    private static final class Odds {
        private final Net net;
        private final long[] parts = new long[MOST_SETS];
        private long whole;

        Odds(Net net) {
            this.net = net;
            whole = 1;
        }

        void fill() {
            fillWith(NONE, 0, 1);
        }

        /** As if link k were not seen and had the chance p by q. */
        void fillWith(int k, int p, int q) {
            parts[0] = 1;
            whole = 1;
            for (int i = 0; i < net.linkCount(); i++) {
                if (i == k) spread(i, p, q);
                else spread(i, net.upParts(i), net.wholeParts(i));
            }
        }

        long told(long sum, int what) {
            return Fractions.told(sum, whole, what);
        }

        long reachParts() {
            long sum = 0;
            for (int set = 0; set <= net.allLinks() && set < MOST_SETS; set++) {
                if (net.reaches(set)) sum += parts[set];
            }
            return sum;
        }

        long pairParts(int a, int b) {
            long sum = 0;
            for (int set = 0; set <= net.allLinks() && set < MOST_SETS; set++) {
                if ((net.joinedWith(set, a) >>> b & 1) != 0) sum += parts[set];
            }
            return sum;
        }

        long ruleParts() {
            long sum = 0;
            for (int set = 0; set <= net.allLinks() && set < MOST_SETS; set++) {
                sum += parts[set] * Integer.bitCount(net.joinedWith(set, net.sourceStation()));
            }
            return sum;
        }

        /** A set's parts without and with link k make up those of the others, whatever k's own chance is. */
        long worthParts(int k) {
            if (!net.hasLink(k)) return 0;
            int bit = 1 << k;
            long sum = 0;
            for (int set = 0; set <= net.allLinks() && (set | bit) < MOST_SETS; set++) {
                if ((set & bit) != 0 || net.reaches(set) || !net.reaches(set | bit)) continue;
                sum += parts[set] + parts[set | bit];
            }
            return sum;
        }

        int worthiestLink() {
            int best = NONE;
            long most = -1;
            for (int k = 0; k < net.linkCount(); k++) {
                if (net.seenOf(k) != 0) continue;
                long value = worthParts(k);
                if (value <= most) continue;
                most = value;
                best = k;
            }
            return best;
        }

        private void spread(int k, int up, int all) {
            int half = 1 << k;
            for (int set = 0; set < half && half + set < MOST_SETS; set++) {
                parts[half + set] = parts[set] * up;
                parts[set] = parts[set] * (all - up);
            }
            whole *= all;
        }
    }

    /** Sets that reach, counted by how many links are up, whatever the chances are. */
    private static final class SetCounts {
        private static final long TOO_MUCH = -1;

        private final Net net;
        private final int[] reaching = new int[MOST_LINKS + 1];

        SetCounts(Net net) {
            this.net = net;
        }

        void fill() {
            for (int k = 0; k < reaching.length; k++) reaching[k] = 0;
            for (int set = 0; set <= net.allLinks(); set++) {
                int size = Integer.bitCount(set);
                if (size < reaching.length && net.reaches(set)) reaching[size]++;
            }
        }

        int ofSize(int k) {
            return k >= 0 && k < reaching.length ? reaching[k] : 0;
        }

        /** Below 0, if a number on the way is more than the greatest long. */
        long likeParts(int a, int b, int what) {
            int links = net.linkCount();
            long sum = 0;
            for (int k = 0; k <= links; k++) {
                long product = times(times(ofSize(k), power(a, k)), power(b - a, links - k));
                sum = plus(sum, product);
            }
            long whole = power(b, links);
            if (sum < 0 || whole < 0) return TOO_MUCH;
            return what == 0 ? sum : whole;
        }

        int leastCut() {
            int least = NONE;
            for (int set = 0; set <= net.allLinks(); set++) {
                if (!net.reaches(net.allLinks() & ~set)) least = lesserSize(least, set);
            }
            return least;
        }

        int leastWay() {
            int least = NONE;
            for (int set = 0; set <= net.allLinks(); set++) {
                if (net.reaches(set)) least = lesserSize(least, set);
            }
            return least;
        }

        private static int lesserSize(int least, int set) {
            int size = Integer.bitCount(set);
            return least == NONE ? size : Math.min(least, size);
        }

        private static long power(long base, int times) {
            long product = 1;
            for (int i = 0; i < times; i++) product = times(product, base);
            return product;
        }

        private static long times(long a, long b) {
            if (a < 0 || b < 0) return TOO_MUCH;
            if (a > 0 && b > GREATEST_LONG / a) return TOO_MUCH;
            return a * b;
        }

        private static long plus(long a, long b) {
            if (a < 0 || b < 0 || a > GREATEST_LONG - b) return TOO_MUCH;
            return a + b;
        }
    }

    /** How many different kinds of sets are still undecided behind a link. */
    private static final class Shared {
        private final Net net;
        private final long[] looks = new long[MOST_SETS];

        Shared(Net net) {
            this.net = net;
        }

        int greatestWidth() {
            int greatest = 0;
            for (int k = 0; k < net.linkCount(); k++) greatest = Math.max(greatest, widthBehind(k));
            return greatest;
        }

        int widthBehind(int k) {
            int open = openBehind(k);
            int sure = surelyUp(k), never = surelyDown(k);
            int last = (1 << (k + 1)) - 1;
            int found = 0;
            for (int set = 0; set <= last && set < MOST_SETS; set++) {
                if ((set & sure) != sure || (set & never) != 0) continue;
                if (net.reaches(set) || isLost(set, open)) continue;
                long look = lookOf(set, open);
                if (found < looks.length && !isAmong(look, found)) looks[found++] = look;
            }
            return found;
        }

        private int openBehind(int k) {
            int open = 0;
            for (int i = k + 1; i < net.linkCount(); i++) open |= 1 << net.lesserOf(i) | 1 << net.greaterOf(i);
            return open;
        }

        private int surelyUp(int k) {
            int bits = 0;
            for (int i = 0; i <= k; i++) {
                if (net.upParts(i) == net.wholeParts(i)) bits |= 1 << i;
            }
            return bits;
        }

        private int surelyDown(int k) {
            int bits = 0;
            for (int i = 0; i <= k; i++) {
                if (net.upParts(i) == 0) bits |= 1 << i;
            }
            return bits;
        }

        private boolean isLost(int set, int open) {
            int wanted = net.wantedStations();
            for (int v = 0; v < MOST_STATIONS; v++) {
                if ((wanted >>> v & 1) != 0 && (net.joinedWith(set, v) & open) == 0) return true;
            }
            return false;
        }

        /** All that ALIKE asks of a set: seven bits for each open station, and one that tells of the wanted ones. */
        private long lookOf(int set, int open) {
            int wanted = net.wantedStations();
            long look = 0;
            for (int v = 0; v < MOST_STATIONS; v++) {
                if ((open >>> v & 1) == 0) continue;
                int with = net.joinedWith(set, v);
                look |= (long) (with & open) << (MOST_STATIONS * v);
                if ((with & wanted) != 0) look |= 1L << (MOST_STATIONS * MOST_STATIONS + v);
            }
            return look;
        }

        private boolean isAmong(long look, int found) {
            for (int i = 0; i < found && i < looks.length; i++) {
                if (looks[i] == look) return true;
            }
            return false;
        }
    }

    /** Asks nets within nets; each level of the asking has one net of its own, used again and again. */
    private static final class CutAndJoin {
        private final Net net;
        private final TidyNet[] levels = new TidyNet[MOST_LINKS + 1];
        private int steps;
        private int deep;
        private int tidied;

        CutAndJoin(Net net) {
            this.net = net;
            for (int i = 0; i < levels.length; i++) levels[i] = new TidyNet();
        }

        void askAll() {
            steps = 0;
            deep = 0;
            tidied = 0;
            levels[0].takeAll(net);
            ask(this, 0);
        }

        long told(int what) {
            switch (what) {
                case 0: return levels[0].answerAbove();
                case 1: return levels[0].answerBelow();
                case 2: return steps;
                case 3: return deep;
                default: return tidied;
            }
        }

        /** Each level has a link less than the one around it, so the levels always suffice. */
        private static void ask(CutAndJoin all, int depth) {
            if (depth < 0 || depth >= all.levels.length) return;
            TidyNet asked = all.levels[depth];
            all.steps++;
            all.deep = Math.max(all.deep, depth + 1);
            all.tidied += asked.tidy();
            if (asked.isSettled() || depth + 1 >= all.levels.length) return;
            TidyNet inner = all.levels[depth + 1];
            int first = asked.leastLink();
            if (asked.canBeUp(first)) {
                inner.takeJoined(asked, first);
                ask(all, depth + 1);
                asked.addUp(first, inner);
            }
            if (asked.canBeDown(first)) {
                inner.takeCut(asked, first);
                ask(all, depth + 1);
                asked.addDown(first, inner);
            }
        }
    }

    /** A net that is tidied, cut and joined; its links keep their numbers when others are dropped. */
    private static final class TidyNet {
        private final int[] nears = new int[MOST_LINKS];
        private final int[] fars = new int[MOST_LINKS];
        private final long[] aboves = new long[MOST_LINKS];
        private final long[] belows = new long[MOST_LINKS];
        private int links;
        private int wanted;
        private long answerAbove;
        private long answerBelow;

        void takeAll(Net net) {
            links = net.allLinks();
            wanted = net.wantedStations();
            for (int i = 0; i < net.linkCount() && i < MOST_LINKS; i++) {
                nears[i] = net.lesserOf(i);
                fars[i] = net.greaterOf(i);
                aboves[i] = net.upParts(i);
                belows[i] = net.wholeParts(i);
            }
            answer(0, 1);
        }

        void takeCut(TidyNet other, int dropped) {
            links = other.links & ~(1 << dropped);
            wanted = other.wanted;
            for (int i = 0; i < MOST_LINKS; i++) {
                nears[i] = other.nears[i];
                fars[i] = other.fars[i];
                aboves[i] = other.aboves[i];
                belows[i] = other.belows[i];
            }
            answer(0, 1);
        }

        void takeJoined(TidyNet other, int dropped) {
            takeCut(other, dropped);
            if (dropped < 0 || dropped >= MOST_LINKS) return;
            int lesser = Math.min(nears[dropped], fars[dropped]);
            int greater = Math.max(nears[dropped], fars[dropped]);
            for (int i = 0; i < MOST_LINKS; i++) {
                if (nears[i] == greater) nears[i] = lesser;
                if (fars[i] == greater) fars[i] = lesser;
            }
            if (isWanted(greater)) wanted = wanted & ~(1 << greater) | 1 << lesser;
        }

        /** How often something was done; each time drops a link, so the bound is never met. */
        int tidy() {
            int done = 0;
            while (done < MOST_LINKS && (dropRound() || joinTwins() || dropEnd() || joinChain())) done++;
            return done;
        }

        /** True, if the answer is clear without asking nets within this one; it is set then. */
        boolean isSettled() {
            if (Integer.bitCount(wanted) == 1) {
                answer(1, 1);
                return true;
            }
            for (int v = 0; v < MOST_STATIONS; v++) {
                if (isWanted(v) && linksAt(v) == 0) return true;
            }
            return links == 0;
        }

        int leastLink() {
            return Integer.numberOfTrailingZeros(links);
        }

        boolean canBeUp(int i) {
            return isThere(i) && aboves[i] != 0;
        }

        boolean canBeDown(int i) {
            return isThere(i) && aboves[i] != belows[i];
        }

        void addUp(int i, TidyNet inner) {
            if (isThere(i)) add(aboves[i] * inner.answerAbove, belows[i] * inner.answerBelow);
        }

        void addDown(int i, TidyNet inner) {
            if (isThere(i)) add((belows[i] - aboves[i]) * inner.answerAbove, belows[i] * inner.answerBelow);
        }

        long answerAbove() {
            return answerAbove;
        }

        long answerBelow() {
            return answerBelow;
        }

        private void answer(long above, long below) {
            answerAbove = above;
            answerBelow = below;
        }

        /** In lowest terms at once: so what is below stays a divisor of the product of all that is below. */
        private void add(long above, long below) {
            long common = Fractions.commonDivisor(answerBelow, below);
            if (common == 0) return;
            long sum = answerAbove * (below / common) + above * (answerBelow / common);
            long whole = answerBelow / common * below;
            answer(Fractions.told(sum, whole, 0), Fractions.told(sum, whole, 1));
        }

        private boolean isThere(int i) {
            return i >= 0 && i < MOST_LINKS && (links >>> i & 1) != 0;
        }

        private boolean isWanted(int v) {
            return (wanted >>> v & 1) != 0;
        }

        private int linksAt(int v) {
            int bits = 0;
            for (int i = 0; i < MOST_LINKS; i++) {
                if (isThere(i) && (nears[i] == v || fars[i] == v)) bits |= 1 << i;
            }
            return bits;
        }

        /** A link from a station to itself. */
        private boolean dropRound() {
            for (int i = 0; i < MOST_LINKS; i++) {
                if (!isThere(i) || nears[i] != fars[i]) continue;
                links &= ~(1 << i);
                return true;
            }
            return false;
        }

        /** Two links between the same two. */
        private boolean joinTwins() {
            for (int i = 0; i < MOST_LINKS; i++) {
                for (int j = i + 1; j < MOST_LINKS; j++) {
                    if (!areTwins(i, j)) continue;
                    long whole = belows[i] * belows[j];
                    aboves[i] = whole - (belows[i] - aboves[i]) * (belows[j] - aboves[j]);
                    belows[i] = whole;
                    links &= ~(1 << j);
                    return true;
                }
            }
            return false;
        }

        private boolean areTwins(int i, int j) {
            if (!isThere(i) || !isThere(j)) return false;
            if (nears[i] == nears[j]) return fars[i] == fars[j];
            return nears[i] == fars[j] && fars[i] == nears[j];
        }

        /** A link that is the only one at a station that is not wanted. */
        private boolean dropEnd() {
            int least = MOST_LINKS;
            for (int v = 0; v < MOST_STATIONS; v++) {
                int here = linksAt(v);
                if (isWanted(v) || Integer.bitCount(here) != 1) continue;
                least = Math.min(least, Integer.numberOfTrailingZeros(here));
            }
            if (least >= MOST_LINKS) return false;
            links &= ~(1 << least);
            return true;
        }

        /** Two links that are the only ones at a station that is not wanted: those with the least numbers. */
        private boolean joinChain() {
            int first = MOST_LINKS, second = MOST_LINKS, middle = 0;
            for (int v = 0; v < MOST_STATIONS; v++) {
                int here = linksAt(v);
                if (isWanted(v) || Integer.bitCount(here) != 2) continue;
                int i = Integer.numberOfTrailingZeros(here);
                int j = Integer.numberOfTrailingZeros(here & ~(1 << i));
                if (i > first || i == first && j >= second) continue;
                first = i;
                second = j;
                middle = v;
            }
            if (first >= MOST_LINKS || second >= MOST_LINKS) return false;
            int start = otherEnd(first, middle), end = otherEnd(second, middle);
            nears[first] = start;
            fars[first] = end;
            aboves[first] *= aboves[second];
            belows[first] *= belows[second];
            links &= ~(1 << second);
            return true;
        }

        private int otherEnd(int i, int v) {
            if (!isThere(i)) return v;
            return nears[i] == v ? fars[i] : nears[i];
        }
    }

    /** The text of the orders; all are looked at before the first is done, so that nothing is ever undone. */
    private static final class Orders {
        private static final int MOST_BYTES = 60;
        private static final int NO_WORD = 0, UP = 1, DOWN = 2, FREE = 3, GOAL = 4, FROM = 5, ALL = 6, NO_GOALS = 7;
        private static final int WRONG_WORD = 1, WRONG_REST = 2, WRONG_NUMBER = 3;

        private final Net net;
        private final int[] text = new int[MOST_BYTES];
        private int length;
        private int fault;

        Orders(Net net) {
            this.net = net;
        }

        int length() {
            return length;
        }

        int latestFault() {
            return fault;
        }

        boolean isFull() {
            return length >= MOST_BYTES;
        }

        int append(int b) {
            if (length >= 0 && length < MOST_BYTES) text[length++] = b;
            return length;
        }

        int clear() {
            int before = length;
            length = 0;
            return before;
        }

        int run() {
            int good = lookThrough();
            if (fault != 0) return -100 - good;
            int start = 0;
            for (int i = 0; i < good; i++) {
                int end = endFrom(start);
                act(start, end);
                start = end + 1;
            }
            return good;
        }

        /**
         * How many orders stand ahead of the first that is wrong; sets what it is wrong by.
         * Each that is not wrong has bytes of its own, so there are never as many as there may be bytes.
         */
        private int lookThrough() {
            int good = 0;
            int start = 0;
            fault = 0;
            while (good < MOST_BYTES && length > 0 && start <= length) {
                int end = endFrom(start);
                fault = faultOf(start, end);
                if (fault != 0) return good;
                good++;
                start = end + 1;
            }
            return good;
        }

        private int faultOf(int start, int end) {
            int rest = start + wordLength(start, end);
            int word = wordOf(start, rest);
            if (word == NO_WORD) return WRONG_WORD;
            if (word == ALL || word == NO_GOALS) return rest == end ? 0 : WRONG_REST;
            if (end - rest != 1 || !isBetween(byteAt(rest), '0', '9')) return WRONG_REST;
            int number = byteAt(rest) - '0';
            boolean known = word == GOAL || word == FROM ? net.hasStation(number) : net.hasLink(number);
            return known ? 0 : WRONG_NUMBER;
        }

        /** Of an order that has no fault: its figure, if it has one, is its last byte. */
        private void act(int start, int end) {
            int number = byteAt(end - 1) - '0';
            switch (wordOf(start, start + wordLength(start, end))) {
                case UP: net.setSeen(number, 1); break;
                case DOWN: net.setSeen(number, 2); break;
                case FREE: net.setSeen(number, 0); break;
                case GOAL: net.setGoals(net.goalBits() ^ 1 << number); break;
                case FROM: net.setSource(number); break;
                case ALL: net.setGoals(net.allStations()); break;
                case NO_GOALS: net.setGoals(0); break;
                default: break;
            }
        }

        private int endFrom(int start) {
            int end = start;
            while (end < length && byteAt(end) != ';') end++;
            return end;
        }

        private int wordLength(int start, int end) {
            int at = start;
            while (at < end && isBetween(byteAt(at), 'a', 'z')) at++;
            return at - start;
        }

        private int wordOf(int start, int end) {
            if (isWord(start, end, "up")) return UP;
            if (isWord(start, end, "down")) return DOWN;
            if (isWord(start, end, "free")) return FREE;
            if (isWord(start, end, "goal")) return GOAL;
            if (isWord(start, end, "from")) return FROM;
            if (isWord(start, end, "all")) return ALL;
            if (isWord(start, end, "none")) return NO_GOALS;
            return NO_WORD;
        }

        /** Compared sign by sign, so that no text is made. */
        private boolean isWord(int start, int end, String word) {
            if (end - start != word.length()) return false;
            for (int i = 0; i < word.length(); i++) {
                if (byteAt(start + i) != word.charAt(i)) return false;
            }
            return true;
        }

        private int byteAt(int i) {
            return i >= 0 && i < length && i < MOST_BYTES ? text[i] : 0;
        }

        private static boolean isBetween(int b, int low, int high) {
            return b >= low && b <= high;
        }
    }

    /** Rows of longs, made once and used again, and the latest finding about them. */
    private static final class Sheets {
        static final int MOST_ITEMS = 40;
        static final int NULL = 1, INDEX = 2, SIZE = 3;

        private static final int MOST_SHEETS = 3, LOST = -1;

        private final long[][] rows = new long[MOST_SHEETS][MOST_ITEMS];
        private final int[] sizes = new int[MOST_SHEETS];
        private int latest;

        Sheets() {
            for (int s = 0; s < MOST_SHEETS; s++) sizes[s] = LOST;
        }

        int finding(int number) {
            latest = number;
            return -10 - number;
        }

        int latestFinding() {
            return latest;
        }

        boolean isSheet(int s) {
            return s >= 0 && s < MOST_SHEETS;
        }

        boolean isLost(int s) {
            return !isSheet(s) || sizes[s] == LOST;
        }

        int sizeOf(int s) {
            return isLost(s) ? 0 : sizes[s];
        }

        /** Whether n items from i on are there; i and n are tested apart, as their sum may wrap. */
        boolean holds(int s, int i, int n) {
            int size = sizeOf(s);
            return i >= 0 && n >= 0 && i <= size && n <= size - i;
        }

        int refusalOf(int s) {
            if (!isSheet(s)) return BAD;
            return isLost(s) ? finding(NULL) : 0;
        }

        int refusalAt(int s, int i) {
            int refusal = refusalOf(s);
            if (refusal != 0) return refusal;
            return hasItem(s, i) ? 0 : finding(INDEX);
        }

        int renew(int s, int n) {
            if (!isSheet(s) || n < 0 || n > MOST_ITEMS) return BAD;
            for (int i = 0; i < n; i++) rows[s][i] = 0;
            sizes[s] = n;
            return n;
        }

        int drop(int s) {
            int before = sizeOf(s);
            if (isSheet(s)) sizes[s] = LOST;
            return before;
        }

        long item(int s, int i) {
            return hasItem(s, i) ? rows[s][i] : 0;
        }

        void put(int s, int i, long v) {
            if (hasItem(s, i)) rows[s][i] = v;
        }

        void move(int s, int i, int t, int j, int n) {
            if (isLost(s) || isLost(t) || !holds(s, i, n) || !holds(t, j, n)) return;
            System.arraycopy(rows[s], i, rows[t], j, n);
        }

        private boolean hasItem(int s, int i) {
            return i >= 0 && i < sizeOf(s) && i < MOST_ITEMS;
        }
    }
}
