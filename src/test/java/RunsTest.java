/** Long runs of calls, asked of the class and of PlainDesk: all answers must be the same. */
public final class RunsTest {
    private static final String[] ORDERS = {"up", "down", "free", "goal", "from"};
    private static final int[] ODD = {-1, Integer.MIN_VALUE, Integer.MAX_VALUE, 10, 41, 256, -2, 100};

    private static final int MOST_CALLS_OF_AN_ACT = 100;

    private final Check check;
    private final int run;
    private long seed;
    private LinkChances x;
    private PlainDesk y;
    private int made;

    private RunsTest(Check check, int run) {
        this.check = check;
        this.run = run;
        seed = run * 7919L + 1;
    }

    public static void main(String[] args) {
        Check check = new Check("RunsTest");
        int runs = args.length > 0 ? Integer.parseInt(args[0]) : 150;
        for (int run = 0; run < runs; run++) new RunsTest(check, run).goThrough();
        check.end();
    }

    /** Numbers that are the same each time. */
    private int below(int bound) {
        seed = seed * 6364136223846793005L + 1442695040888963407L;
        return (int) ((seed >>> 33) % bound);
    }

    /** Mostly 0 to less than bound, at times on its edge or far beside it. */
    private int some(int bound) {
        int kind = below(40);
        if (kind == 0) return ODD[below(ODD.length)];
        if (kind == 1) return bound;
        return below(Math.max(1, bound));
    }

    /** Each answer of x is looked at once, so these are its calls, too. */
    private void due(String call, long got, long want) {
        made++;
        check.due("run " + run + ": " + call, got, want);
    }

    private void goThrough() {
        start();
        // runs of dear calls are short, so that the plain way is done in time
        int calls = run % 3 == 0 ? 400 : 60;
        for (int i = 0; i < calls; i++) {
            if (made > 512 - MOST_CALLS_OF_AN_ACT) start();
            int act = below(run % 3 == 0 ? 20 : 40);
            if (act < 10) changeNet(act);
            else if (act < 14) orders();
            else if (act < 20) sheets();
            else ask(act - 20);
        }
        due("digest", x.digest(), y.digest());
    }

    /** With new objects: nothing is promised of an object behind its 512th call. */
    private void start() {
        x = new LinkChances();
        y = new PlainDesk();
        made = 0;
        int n = 2 + below(6);
        due("stations", x.stations(n), y.stations(n));
        int links = below(11);
        for (int k = 0; k < links; k++) link();
        int bits = below(1 << n);
        due("goals", x.goals(bits), y.goals(bits));
        due("digest", x.digest(), y.digest());
    }

    private void link() {
        int n = y.n, a = below(n), b = below(n);
        int[] chance = chance();
        due("link", x.link(a, b, chance[0], chance[1]), y.link(a, b, chance[0], chance[1]));
    }

    private int[] chance() {
        int q = 1 + below(9);
        int kind = below(8);
        return new int[] {kind == 0 ? 0 : kind == 1 ? q : below(q + 1), q};
    }

    private void changeNet(int act) {
        int n = y.n, links = y.links.size();
        int[] chance = chance();
        int k = some(links), a = some(n), b = some(n), p = some(chance[0] + 1), q = chance[1], v = some(3), bits = some(1 << n);
        int count = some(8);
        switch (act) {
            case 0:
                if (below(6) == 0) due("stations", x.stations(count), y.stations(count));
                break;
            case 1: due("link", x.link(a, b, p, q), y.link(a, b, p, q)); break;
            case 2: due("link", x.link(a, b, chance[0], q), y.link(a, b, chance[0], q)); break;
            case 3:
                if (below(3) == 0) due("back", x.back(), y.back());
                break;
            case 4: due("chance", x.chance(k, p, q), y.chance(k, p, q)); break;
            case 5: due("chance", x.chance(k, v, count), y.chance(k, v, count)); break;
            case 6: due("see", x.see(k, v), y.see(k, v)); break;
            case 7: due("source", x.source(a), y.source(a)); break;
            case 8: due("goals", x.goals(bits), y.goals(bits)); break;
            default:
                due("info", x.info(k, v), y.info(k, v));
                due("count", x.count(count), y.count(count));
                due("count(8)", x.count(8), y.count(8));
        }
    }

    private void orders() {
        due("wipe", x.wipe(), y.wipe());
        int orders = below(6);
        StringBuilder text = new StringBuilder();
        for (int i = 0; i < orders; i++) {
            if (i > 0) text.append(';');
            int kind = below(24);
            if (kind == 0) text.append((char) below(256));
            else if (kind == 1) text.append("all");
            else if (kind == 2) text.append("none");
            else if (kind == 3) text.append(ORDERS[below(5)]);
            else if (kind == 4) text.append(ORDERS[below(5)]).append(below(100));
            else if (kind < 14) text.append(ORDERS[3 + below(2)]).append(below(y.n + (kind == 5 ? 1 : 0)));
            else text.append(ORDERS[below(3)]).append(below(Math.max(1, y.links.size())));
        }
        for (int i = 0; i < text.length(); i++) due("type", x.type(text.charAt(i)), y.type(text.charAt(i)));
        due("obey of " + text, x.obey(), y.obey());
        due("wrong of " + text, x.wrong(), y.wrong());
        for (int k = 0; k < y.links.size(); k++) due("seen", x.info(k, 4), y.info(k, 4));
        due("goals", x.count(3), y.count(3));
        due("source", x.count(2), y.count(2));
        int b = some(256);
        due("type", x.type(b), y.type(b));
    }

    private void sheets() {
        int s = some(3), t = some(3), n = some(41), i = some(12), j = some(12), count = some(5), v = some(10);
        switch (below(8)) {
            case 0: due("sheet", x.sheet(s, n), y.sheet(s, n)); break;
            case 1:
                if (below(4) == 0) due("lose", x.lose(s), y.lose(s));
                break;
            case 2: due("lay", x.lay(s, i, v), y.lay(s, i, v)); break;
            case 3: due("get", x.get(s, n), y.get(s, n)); break;
            case 4: due("copy", x.copy(s, i, t, j, count), y.copy(s, i, t, j, count)); break;
            case 5: linksOn(s); break;
            case 6: due("write", x.write(s), y.write(s)); break;
            default: due("read", x.read(s), y.read(s));
        }
        due("count(8)", x.count(8), y.count(8));
        for (int at = 0; at < 41; at++) due("get", x.get(below(3), at), y.get(lastBelow(3), at));
    }

    /** What below() answered just now. */
    private int lastBelow(int bound) {
        return (int) ((seed >>> 33) % bound);
    }

    private void linksOn(int s) {
        int n = below(41);
        due("sheet", x.sheet(s, n), y.sheet(s, n));
        for (int i = 0; i < n; i++) {
            int[] chance = chance();
            int v = i % 4 < 2 ? below(y.n + (below(20) == 0 ? 1 : 0)) : chance[i % 4 - 2];
            due("lay", x.lay(s, i, v), y.lay(s, i, v));
        }
        due("read", x.read(s), y.read(s));
        due("count(1)", x.count(1), y.count(1));
    }

    private void ask(int act) {
        int links = y.links.size(), what = some(2), k = some(links), a = some(y.n), b = some(y.n);
        int[] chance = chance();
        int five = some(5), low = some(20), high = some(100), p = some(chance[0] + 1), q = chance[1];
        switch (act) {
            case 0: due("reach", x.reach(what), y.reach(what)); break;
            case 1: case 2: case 3: case 4: due("joined", x.joined(five), y.joined(five)); break;
            case 5: case 6: due("wide", x.wide(k), y.wide(k)); break;
            case 7: due("widest", x.widest(), y.widest()); break;
            case 8: due("pair", x.pair(a, b, what), y.pair(a, b, what)); break;
            case 9: due("rule", x.rule(what), y.rule(what)); break;
            case 10: due("sets", x.sets(k), y.sets(k)); break;
            case 11: case 12: due("like", x.like(low, high, what), y.like(low, high, what)); break;
            case 13: due("like", x.like(high, high, what), y.like(high, high, what)); break;
            case 14: due("least", x.least(what), y.least(what)); break;
            case 15: due("worth", x.worth(k, what), y.worth(k, what)); break;
            case 16: due("worthiest", x.worthiest(), y.worthiest()); break;
            case 17: due("better", x.better(k, p, q, what), y.better(k, p, q, what)); break;
            default:
                if (below(6) == 0) due("digest", x.digest(), y.digest());
                else due("count", x.count(five + 4), y.count(five + 4));
        }
    }
}
