import java.math.BigInteger;
import java.util.ArrayList;
import java.util.HashSet;
import java.util.List;
import java.util.Set;
import java.util.TreeSet;

/**
 * The document once more, as its words go, on other ways than the class: with lists, big numbers and
 * no thought of speed. RunsTest asks both the same.
 */
final class PlainDesk {
    private static final long LEAST = Long.MIN_VALUE;

    /** A fraction in lowest terms. */
    record Frac(BigInteger above, BigInteger below) {
        static final Frac ZERO = of(0, 1), ONE = of(1, 1);

        static Frac of(long a, long b) {
            return of(BigInteger.valueOf(a), BigInteger.valueOf(b));
        }

        static Frac of(BigInteger a, BigInteger b) {
            BigInteger g = a.gcd(b);
            return new Frac(a.divide(g), b.divide(g));
        }

        Frac times(Frac o) {
            return of(above.multiply(o.above), below.multiply(o.below));
        }

        Frac plus(Frac o) {
            return of(above.multiply(o.below).add(o.above.multiply(below)), below.multiply(o.below));
        }

        Frac less(Frac o) {
            return of(above.multiply(o.below).subtract(o.above.multiply(below)), below.multiply(o.below));
        }

        long side(int what) {
            return (what == 0 ? above : below).longValueExact();
        }
    }

    static final class Link {
        int a, b, p, q, seen;

        Frac chance() {
            return seen == 1 ? Frac.ONE : seen == 2 ? Frac.ZERO : Frac.of(p, q);
        }
    }

    static final class Wire {
        int a, b;
        Frac chance;

        Wire(int a, int b, Frac chance) {
            this.a = a;
            this.b = b;
            this.chance = chance;
        }

        boolean at(int v) {
            return a == v || b == v;
        }

        int other(int v) {
            return a == v ? b : a;
        }
    }

    int n = 4;
    List<Link> links = new ArrayList<>();
    int source;
    Set<Integer> goals = new TreeSet<>();
    List<Integer> text = new ArrayList<>();
    int wrong;
    long[][] sheets = new long[3][];
    int latest;

    // ---- the net

    int stations(int count) {
        if (count < 2 || count > 7) return -2;
        int was = n;
        n = count;
        links.clear();
        goals.clear();
        source = 0;
        return was;
    }

    private boolean station(long v) {
        return 0 <= v && v < n;
    }

    private boolean number(int k) {
        return 0 <= k && k < links.size();
    }

    private static boolean fraction(long p, long q) {
        return 1 <= q && q <= 9 && 0 <= p && p <= q;
    }

    int link(int a, int b, int p, int q) {
        if (!station(a) || !station(b) || a == b || !fraction(p, q)) return -2;
        if (links.size() == 10) return -4;
        Link link = new Link();
        link.a = Math.min(a, b);
        link.b = Math.max(a, b);
        link.p = p;
        link.q = q;
        links.add(link);
        return links.size() - 1;
    }

    int back() {
        if (links.isEmpty()) return -3;
        links.remove(links.size() - 1);
        return links.size();
    }

    int chance(int k, int p, int q) {
        if (!number(k) || !fraction(p, q)) return -2;
        Link link = links.get(k);
        int was = 10 * link.p + link.q;
        link.p = p;
        link.q = q;
        return was;
    }

    int see(int k, int v) {
        if (!number(k) || v < 0 || v > 2) return -2;
        int was = links.get(k).seen;
        links.get(k).seen = v;
        return was;
    }

    int source(int s) {
        if (!station(s)) return -2;
        int was = source;
        source = s;
        return was;
    }

    private int goalBits() {
        int bits = 0;
        for (int v : goals) bits += 1 << v;
        return bits;
    }

    int goals(int bits) {
        if (bits < 0) return -2;
        for (int v = n; v < 32; v++) if ((bits >>> v & 1) == 1) return -2;
        int was = goalBits();
        goals.clear();
        for (int v = 0; v < n; v++) if ((bits >>> v & 1) == 1) goals.add(v);
        return was;
    }

    int info(int k, int what) {
        if (!number(k) || what < 0 || what > 4) return -2;
        Link link = links.get(k);
        return new int[] {link.a, link.b, link.p, link.q, link.seen}[what];
    }

    // ---- chances

    private Set<Integer> wanted() {
        Set<Integer> wanted = new TreeSet<>(goals);
        wanted.add(source);
        return wanted;
    }

    /** The stations that v is joined with by the links that are up, found by walking. */
    private Set<Integer> joinedWith(boolean[] up, int v) {
        Set<Integer> found = new TreeSet<>();
        List<Integer> walk = new ArrayList<>();
        walk.add(v);
        while (!walk.isEmpty()) {
            int at = walk.remove(walk.size() - 1);
            if (!found.add(at)) continue;
            for (int k = 0; k < up.length; k++) {
                if (!up[k]) continue;
                if (links.get(k).a == at) walk.add(links.get(k).b);
                if (links.get(k).b == at) walk.add(links.get(k).a);
            }
        }
        return found;
    }

    private boolean reaches(boolean[] up) {
        return joinedWith(up, source).containsAll(wanted());
    }

    private static List<boolean[]> setsOf(int count) {
        List<boolean[]> sets = new ArrayList<>();
        for (int bits = 0; bits < 1 << count; bits++) {
            boolean[] up = new boolean[count];
            for (int k = 0; k < count; k++) up[k] = (bits >>> k & 1) == 1;
            sets.add(up);
        }
        return sets;
    }

    private static int size(boolean[] up) {
        int size = 0;
        for (boolean b : up) if (b) size++;
        return size;
    }

    interface Worth {
        int of(boolean[] up);
    }

    private Frac expected(Worth worth) {
        BigInteger below = BigInteger.ONE;
        for (Link link : links) below = below.multiply(link.chance().below());
        BigInteger sum = BigInteger.ZERO;
        for (boolean[] up : setsOf(links.size())) {
            BigInteger part = BigInteger.ONE;
            for (int k = 0; k < up.length && part.signum() != 0; k++) {
                Frac c = up[k] ? links.get(k).chance() : Frac.ONE.less(links.get(k).chance());
                part = part.multiply(c.above()).multiply(links.get(k).chance().below().divide(c.below()));
            }
            if (part.signum() != 0) sum = sum.add(part.multiply(BigInteger.valueOf(worth.of(up))));
        }
        return Frac.of(sum, below);
    }

    private Frac reachNow() {
        return expected(up -> reaches(up) ? 1 : 0);
    }

    long reach(int what) {
        if (what != 0 && what != 1) return LEAST + 2;
        return reachNow().side(what);
    }

    private int steps, deep, tidy;

    long joined(int what) {
        if (what < 0 || what > 4) return LEAST + 2;
        steps = deep = tidy = 0;
        List<Wire> wires = new ArrayList<>();
        for (Link link : links) wires.add(new Wire(link.a, link.b, link.chance()));
        Frac answer = ask(wires, wanted(), 1);
        return what == 0 || what == 1 ? answer.side(what) : new int[] {steps, deep, tidy}[what - 2];
    }

    private static List<Wire> copyOf(List<Wire> wires) {
        List<Wire> copy = new ArrayList<>();
        for (Wire w : wires) copy.add(new Wire(w.a, w.b, w.chance));
        return copy;
    }

    private Frac ask(List<Wire> wires, Set<Integer> wanted, int level) {
        steps++;
        deep = Math.max(deep, level);
        while (kindA(wires) || kindB(wires) || kindC(wires, wanted) || kindD(wires, wanted)) tidy++;
        if (wanted.size() == 1) return Frac.ONE;
        for (int v : wanted) if (countAt(wires, v) == 0) return Frac.ZERO;
        Wire first = wires.get(0);
        Frac answer = Frac.ZERO;
        if (!first.chance.equals(Frac.ZERO)) {
            List<Wire> rest = copyOf(wires);
            rest.remove(0);
            int lesser = Math.min(first.a, first.b), greater = Math.max(first.a, first.b);
            for (Wire w : rest) {
                if (w.a == greater) w.a = lesser;
                if (w.b == greater) w.b = lesser;
            }
            Set<Integer> now = new TreeSet<>();
            for (int v : wanted) now.add(v == greater ? lesser : v);
            answer = answer.plus(first.chance.times(ask(rest, now, level + 1)));
        }
        if (!first.chance.equals(Frac.ONE)) {
            List<Wire> rest = copyOf(wires);
            rest.remove(0);
            answer = answer.plus(Frac.ONE.less(first.chance).times(ask(rest, new TreeSet<>(wanted), level + 1)));
        }
        return answer;
    }

    private static int countAt(List<Wire> wires, int v) {
        int count = 0;
        for (Wire w : wires) if (w.at(v)) count++;
        return count;
    }

    private static boolean kindA(List<Wire> wires) {
        for (int i = 0; i < wires.size(); i++) {
            if (wires.get(i).a != wires.get(i).b) continue;
            wires.remove(i);
            return true;
        }
        return false;
    }

    private static boolean kindB(List<Wire> wires) {
        for (int i = 0; i < wires.size(); i++) {
            for (int j = i + 1; j < wires.size(); j++) {
                Wire x = wires.get(i), y = wires.get(j);
                if (!(x.a == y.a && x.b == y.b || x.a == y.b && x.b == y.a)) continue;
                x.chance = Frac.ONE.less(Frac.ONE.less(x.chance).times(Frac.ONE.less(y.chance)));
                wires.remove(j);
                return true;
            }
        }
        return false;
    }

    private static boolean kindC(List<Wire> wires, Set<Integer> wanted) {
        for (int i = 0; i < wires.size(); i++) {
            for (int v : new int[] {wires.get(i).a, wires.get(i).b}) {
                if (wanted.contains(v) || countAt(wires, v) != 1) continue;
                wires.remove(i);
                return true;
            }
        }
        return false;
    }

    private static boolean kindD(List<Wire> wires, Set<Integer> wanted) {
        for (int i = 0; i < wires.size(); i++) {
            for (int j = i + 1; j < wires.size(); j++) {
                Wire x = wires.get(i), y = wires.get(j);
                for (int v = 0; v < 7; v++) {
                    if (wanted.contains(v) || !x.at(v) || !y.at(v) || countAt(wires, v) != 2) continue;
                    int start = x.other(v), end = y.other(v);
                    x.a = start;
                    x.b = end;
                    x.chance = x.chance.times(y.chance);
                    wires.remove(j);
                    return true;
                }
            }
        }
        return false;
    }

    int wide(int k) {
        if (!number(k)) return -2;
        Set<Integer> open = new TreeSet<>();
        for (int i = k + 1; i < links.size(); i++) {
            open.add(links.get(i).a);
            open.add(links.get(i).b);
        }
        Set<String> kinds = new HashSet<>();
        for (boolean[] up : setsOf(k + 1)) {
            if (may(up) && !reaches(up) && !isLost(up, open)) kinds.add(kindOf(up, open));
        }
        return kinds.size();
    }

    private boolean may(boolean[] up) {
        for (int k = 0; k < up.length; k++) {
            Frac c = links.get(k).chance();
            if (up[k] && c.equals(Frac.ZERO) || !up[k] && c.equals(Frac.ONE)) return false;
        }
        return true;
    }

    private boolean isLost(boolean[] up, Set<Integer> open) {
        for (int w : wanted()) {
            Set<Integer> both = joinedWith(up, w);
            both.retainAll(open);
            if (both.isEmpty()) return true;
        }
        return false;
    }

    private String kindOf(boolean[] up, Set<Integer> open) {
        StringBuilder kind = new StringBuilder();
        for (int v : open) {
            Set<Integer> with = joinedWith(up, v);
            boolean some = false;
            for (int w : wanted()) some |= with.contains(w);
            with.retainAll(open);
            kind.append(with).append(some);
        }
        return kind.toString();
    }

    int widest() {
        int widest = 0;
        for (int k = 0; k < links.size(); k++) widest = Math.max(widest, wide(k));
        return widest;
    }

    long pair(int a, int b, int what) {
        if (!station(a) || !station(b) || what != 0 && what != 1) return LEAST + 2;
        return expected(up -> joinedWith(up, a).contains(b) ? 1 : 0).side(what);
    }

    long rule(int what) {
        if (what != 0 && what != 1) return LEAST + 2;
        Frac sum = Frac.ZERO;
        for (int v = 0; v < n; v++) {
            int station = v;
            sum = sum.plus(expected(up -> joinedWith(up, source).contains(station) ? 1 : 0));
        }
        return sum.side(what);
    }

    int sets(int k) {
        if (k < 0 || k > links.size()) return -2;
        int count = 0;
        for (boolean[] up : setsOf(links.size())) if (size(up) == k && reaches(up)) count++;
        return count;
    }

    private static boolean isOver(BigInteger number) {
        return number.compareTo(BigInteger.valueOf(Long.MAX_VALUE)) > 0;
    }

    long like(int a, int b, int what) {
        if (b < 1 || b > 99 || a < 0 || a > b || what != 0 && what != 1) return LEAST + 2;
        BigInteger sum = BigInteger.ZERO;
        BigInteger whole = BigInteger.valueOf(b).pow(links.size());
        boolean over = isOver(whole);
        for (int k = 0; k <= links.size(); k++) {
            BigInteger up = BigInteger.valueOf(a).pow(k), down = BigInteger.valueOf(b - a).pow(links.size() - k);
            BigInteger first = BigInteger.valueOf(sets(k)).multiply(up), second = first.multiply(down);
            sum = sum.add(second);
            over |= isOver(up) || isOver(down) || isOver(first) || isOver(second) || isOver(sum);
        }
        if (over) return LEAST + 5;
        return (what == 0 ? sum : whole).longValueExact();
    }

    int least(int what) {
        if (what != 0 && what != 1) return -2;
        int least = -1;
        for (boolean[] some : setsOf(links.size())) {
            boolean[] up = some.clone();
            if (what == 0) for (int k = 0; k < up.length; k++) up[k] = !up[k];
            if (reaches(up) == (what == 0)) continue;
            if (least < 0 || size(some) < least) least = size(some);
        }
        return least;
    }

    // ---- worth

    private Frac reachWith(int k, int p, int q) {
        Link link = links.get(k);
        int oldP = link.p, oldQ = link.q, oldSeen = link.seen;
        link.p = p;
        link.q = q;
        link.seen = 0;
        Frac reach = reachNow();
        link.p = oldP;
        link.q = oldQ;
        link.seen = oldSeen;
        return reach;
    }

    private Frac worthOf(int k) {
        return reachWith(k, 1, 1).less(reachWith(k, 0, 1));
    }

    long worth(int k, int what) {
        if (!number(k) || what != 0 && what != 1) return LEAST + 2;
        return worthOf(k).side(what);
    }

    int worthiest() {
        int best = -1;
        Frac most = null;
        for (int k = 0; k < links.size(); k++) {
            if (links.get(k).seen != 0) continue;
            Frac worth = worthOf(k);
            if (most != null && worth.less(most).above().signum() <= 0) continue;
            most = worth;
            best = k;
        }
        return best;
    }

    long better(int k, int p, int q, int what) {
        if (!number(k) || !fraction(p, q) || what != 0 && what != 1) return LEAST + 2;
        return reachWith(k, p, q).side(what);
    }

    // ---- orders

    int type(int b) {
        if (b < 0 || b > 255) return -2;
        if (text.size() == 60) return -4;
        text.add(b);
        return text.size();
    }

    int wipe() {
        int was = text.size();
        text.clear();
        return was;
    }

    int obey() {
        wrong = 0;
        if (text.isEmpty()) return 0;
        StringBuilder all = new StringBuilder();
        for (int b : text) all.append((char) b);
        int oldSource = source;
        Set<Integer> oldGoals = new TreeSet<>(goals);
        List<Integer> oldSeen = new ArrayList<>();
        for (Link link : links) oldSeen.add(link.seen);
        String[] orders = all.toString().split(";", -1);
        for (int i = 0; i < orders.length; i++) {
            wrong = obeyOne(orders[i]);
            if (wrong == 0) continue;
            source = oldSource;
            goals = oldGoals;
            for (int k = 0; k < links.size(); k++) links.get(k).seen = oldSeen.get(k);
            return -100 - i;
        }
        return orders.length;
    }

    private int obeyOne(String order) {
        String rest = order.replaceFirst("^[a-z]*", "");
        String word = order.substring(0, order.length() - rest.length());
        if (!List.of("up", "down", "free", "goal", "from", "all", "none").contains(word)) return 1;
        if (word.equals("all") || word.equals("none")) {
            if (!rest.isEmpty()) return 2;
            goals.clear();
            if (word.equals("all")) for (int v = 0; v < n; v++) goals.add(v);
            return 0;
        }
        if (!rest.matches("(?s)[0-9]")) return 2;
        int number = Integer.parseInt(rest);
        if (word.equals("goal") || word.equals("from")) {
            if (!station(number)) return 3;
            if (word.equals("from")) source = number;
            else if (!goals.remove(number)) goals.add(number);
            return 0;
        }
        if (!number(number)) return 3;
        links.get(number).seen = word.equals("up") ? 1 : word.equals("down") ? 2 : 0;
        return 0;
    }

    int wrong() {
        return wrong;
    }

    // ---- sheets

    private int finding(int number) {
        latest = number;
        return -10 - number;
    }

    private static boolean isSheet(int s) {
        return 0 <= s && s <= 2;
    }

    int sheet(int s, int count) {
        if (!isSheet(s) || count > 40) return -2;
        if (count < 0) return finding(3);
        sheets[s] = new long[count];
        return count;
    }

    int lose(int s) {
        if (!isSheet(s)) return -2;
        if (sheets[s] == null) return finding(1);
        int was = sheets[s].length;
        sheets[s] = null;
        return was;
    }

    int lay(int s, int i, int v) {
        if (!isSheet(s)) return -2;
        if (sheets[s] == null) return finding(1);
        if (i < 0 || i >= sheets[s].length) return finding(2);
        sheets[s][i] = v;
        return 1;
    }

    long get(int s, int i) {
        if (!isSheet(s)) return LEAST + 2;
        if (sheets[s] == null) return LEAST - finding(1);
        if (i < 0 || i >= sheets[s].length) return LEAST - finding(2);
        return sheets[s][i];
    }

    int copy(int s, int i, int t, int j, int count) {
        if (!isSheet(s) || !isSheet(t)) return -2;
        if (sheets[s] == null || sheets[t] == null) return finding(1);
        if (i < 0 || j < 0 || count < 0) return finding(2);
        if ((long) i + count > sheets[s].length || (long) j + count > sheets[t].length) return finding(2);
        long[] from = sheets[s].clone();
        for (int at = 0; at < count; at++) sheets[t][j + at] = from[i + at];
        return 1;
    }

    int read(int s) {
        if (!isSheet(s)) return -2;
        if (sheets[s] == null) return finding(1);
        int done = 0;
        for (int i = 0; i + 4 <= sheets[s].length; i += 4) {
            long[] row = sheets[s];
            for (int at = i; at < i + 4; at++) if (row[at] < 0 || row[at] > 9) return done;
            if (link((int) row[i], (int) row[i + 1], (int) row[i + 2], (int) row[i + 3]) < 0) return done;
            done++;
        }
        return done;
    }

    int write(int s) {
        if (!isSheet(s)) return -2;
        if (sheets[s] == null) return finding(1);
        int i = 0;
        for (int k = 0; k < links.size(); k++) {
            Frac worth = worthOf(k);
            for (int what = 0; what < 2 && i < sheets[s].length; what++) sheets[s][i++] = worth.side(what);
        }
        return i;
    }

    int count(int what) {
        int free = 0;
        boolean[] up = new boolean[links.size()];
        for (int k = 0; k < up.length; k++) {
            if (links.get(k).seen == 0) free++;
            up[k] = links.get(k).seen != 2;
        }
        switch (what) {
            case 0: return n;
            case 1: return links.size();
            case 2: return source;
            case 3: return goalBits();
            case 4: return wanted().size();
            case 5: return free;
            case 6: return reaches(up) ? 1 : 0;
            case 7: return text.size();
            case 8: return latest;
            default: return -2;
        }
    }

    private long digest;

    private void mix(long... all) {
        for (long next : all) digest = 31 * digest + next;
    }

    long digest() {
        digest = 17;
        for (int what = 0; what < 8; what++) mix(count(what));
        for (int k = 0; k < links.size(); k++) {
            for (int what = 0; what < 5; what++) mix(info(k, what));
            Frac worth = worthOf(k);
            mix(wide(k), worth.side(0), worth.side(1));
        }
        mix(reach(0), reach(1));
        for (int what = 0; what < 5; what++) mix(joined(what));
        mix(widest(), rule(0), rule(1));
        for (int k = 0; k <= links.size(); k++) mix(sets(k));
        mix(like(1, 2, 0), like(1, 2, 1), like(9, 10, 0), least(0), least(1), worthiest());
        for (int a = 0; a < n; a++) {
            for (int b = a + 1; b < n; b++) mix(pair(a, b, 0), pair(a, b, 1));
        }
        mix(wrong());
        return digest;
    }
}
