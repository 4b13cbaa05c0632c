/** Promises 1 to 9, and the constants. */
public final class NetTest {
    private static final Check check = new Check("NetTest");

    public static void main(String[] args) {
        constants();
        aNewObject();
        stations();
        link();
        back();
        chance();
        see();
        source();
        goals();
        info();
        check.end();
    }

    private static void constants() {
        check.due("NONE", LinkChances.NONE, -1);
        check.due("BAD", LinkChances.BAD, -2);
        check.due("NOT", LinkChances.NOT, -3);
        check.due("FULL", LinkChances.FULL, -4);
        check.due("OVER", LinkChances.OVER, -5);
    }

    // promise 1
    private static void aNewObject() {
        LinkChances x = new LinkChances();
        int[] counts = {4, 0, 0, 0, 1, 0, 1, 0, 0};
        for (int what = 0; what < counts.length; what++) check.due("new: count(" + what + ")", x.count(what), counts[what]);
        for (int s = 0; s < 3; s++) check.due("new: lose(" + s + ")", x.lose(s), -11);
        check.due("new: wipe()", x.wipe(), 0);
        check.due("new: wrong()", x.wrong(), 0);
        check.due("new: back()", x.back(), -3);
        check.due("new: link", x.link(3, 0, 1, 2), 0);
        check.due("new: a second object is of its own", new LinkChances().count(1), 0);
    }

    // promise 2
    private static void stations() {
        LinkChances x = Check.bridge();
        x.source(2);
        x.see(1, 2);
        Check.fill(x, 1, 5, 6);
        x.type(';');
        long digest = x.digest();
        for (int n : new int[] {1, 0, -1, 8, 9, Integer.MIN_VALUE, Integer.MAX_VALUE}) {
            check.due("stations(" + n + ")", x.stations(n), -2);
            check.changesNothing("stations(" + n + ")", x, digest, 0);
        }
        check.due("stations(7)", x.stations(7), 4);
        int[] counts = {7, 0, 0, 0, 1, 0, 1, 1, 0};
        for (int what = 0; what < counts.length; what++) check.due("stations: count(" + what + ")", x.count(what), counts[what]);
        check.due("the sheets stay", x.get(1, 1), 6);
        check.due("stations(2)", x.stations(2), 7);
        check.due("link to a station that is gone", x.link(0, 2, 1, 1), -2);
        check.due("link behind stations", x.link(1, 0, 1, 1), 0);
        check.due("SEEN is new behind stations", x.info(0, 4), 0);
        check.due("stations(2) again", x.stations(2), 2);
        check.due("no links again", x.count(1), 0);
        check.due("stations(3)", x.stations(3), 2);
        check.due("stations(6)", x.stations(6), 3);
        // what was joined ahead of it is forgotten
        LinkChances y = Check.fullNet();
        y.stations(4);
        y.link(2, 3, 1, 1);
        y.goals(2);
        check.due("old links are gone", y.reach(0), 0);
    }

    // promise 3
    private static void link() {
        LinkChances x = new LinkChances();
        long digest = x.digest();
        int[][] bad = {{0, 0, 1, 2}, {3, 3, 1, 2}, {-1, 0, 1, 2}, {0, -1, 1, 2}, {4, 0, 1, 2}, {0, 4, 1, 2},
            {0, 1, -1, 2}, {0, 1, 3, 2}, {0, 1, 0, 0}, {0, 1, 0, -1}, {0, 1, -1, -1}, {0, 1, 10, 10}, {0, 1, 1, 10},
            {Integer.MIN_VALUE, 0, 1, 2}, {0, Integer.MAX_VALUE, 1, 2}, {0, 1, 1, Integer.MAX_VALUE}, {0, 1, Integer.MIN_VALUE, 2}};
        for (int[] l : bad) {
            check.due("link bad", x.link(l[0], l[1], l[2], l[3]), -2);
            check.changesNothing("link bad", x, digest, 0);
        }
        check.due("link(3, 1, 2, 4)", x.link(3, 1, 2, 4), 0);
        check.due("lesser", x.info(0, 0), 1);
        check.due("greater", x.info(0, 1), 3);
        check.due("above stays as told", x.info(0, 2), 2);
        check.due("below stays as told", x.info(0, 3), 4);
        check.due("seen", x.info(0, 4), 0);
        check.due("link of the same two", x.link(1, 3, 0, 1), 1);
        check.due("link 9 by 9", x.link(0, 3, 9, 9), 2);
        check.due("link 0 by 9", x.link(0, 3, 0, 9), 3);
        check.due("link 1 by 1", x.link(0, 3, 1, 1), 4);
        for (int k = 5; k < 10; k++) check.due("link " + k, x.link(2, 0, 1, 3), k);
        digest = x.digest();
        check.due("link too many", x.link(2, 0, 1, 3), -4);
        check.changesNothing("link too many", x, digest, 0);
        check.due("BAD comes ahead of FULL", x.link(0, 0, 1, 2), -2);
        check.due("BAD chance comes ahead of FULL", x.link(0, 1, 3, 2), -2);
        check.due("links", x.count(1), 10);
        x.see(9, 1);
        x.back();
        check.due("link again", x.link(2, 0, 1, 3), 9);
        check.due("a new link has SEEN 0", x.info(9, 4), 0);
    }

    // promise 4
    private static void back() {
        LinkChances x = Check.bridge();
        check.due("reach with all", x.reach(1), 2);
        check.due("back()", x.back(), 4);
        check.due("the last is gone", x.info(4, 0), -2);
        check.due("the one ahead of it stays", x.info(3, 1), 3);
        check.fraction("reach without the last", x.reach(0), x.reach(1), 5, 16);
        for (int left = 3; left >= 0; left--) check.due("back()", x.back(), left);
        long digest = x.digest();
        check.due("back() of none", x.back(), -3);
        check.changesNothing("back() of none", x, digest, 0);
        check.due("goals stay", x.count(3), 8);
        check.due("the next is number 0", x.link(0, 3, 1, 5), 0);
        check.fraction("reach by the new one", x.reach(0), x.reach(1), 1, 5);
    }

    // promise 5
    private static void chance() {
        LinkChances x = Check.net(4, Check.l(0, 1, 2, 4), Check.l(1, 2, 9, 9), Check.l(0, 3, 0, 7));
        long digest = x.digest();
        int[][] bad = {{-1, 1, 2}, {3, 1, 2}, {10, 1, 2}, {0, -1, 2}, {0, 3, 2}, {0, 0, 0}, {0, 1, 10}, {0, 0, -1},
            {Integer.MAX_VALUE, 1, 2}, {Integer.MIN_VALUE, 1, 2}};
        for (int[] c : bad) {
            check.due("chance bad", x.chance(c[0], c[1], c[2]), -2);
            check.changesNothing("chance bad", x, digest, 0);
        }
        check.due("chance(0, 3, 5)", x.chance(0, 3, 5), 24);
        check.due("chance(1, 0, 1)", x.chance(1, 0, 1), 99);
        check.due("chance(2, 9, 9)", x.chance(2, 9, 9), 7);
        check.due("chance(0, 1, 1)", x.chance(0, 1, 1), 35);
        check.due("above", x.info(0, 2), 1);
        check.due("below", x.info(0, 3), 1);
        check.due("above of the next", x.info(1, 2), 0);
        x.see(0, 2);
        check.due("chance of one that is SEEN", x.chance(0, 2, 3), 11);
        check.due("SEEN stays", x.info(0, 4), 2);
    }

    // promise 6
    private static void see() {
        LinkChances x = Check.net(4, Check.l(0, 1, 1, 3), Check.l(1, 2, 1, 3));
        long digest = x.digest();
        int[][] bad = {{-1, 0}, {2, 0}, {0, -1}, {0, 3}, {10, 1}, {Integer.MAX_VALUE, 1}, {0, Integer.MIN_VALUE}};
        for (int[] c : bad) {
            check.due("see bad", x.see(c[0], c[1]), -2);
            check.changesNothing("see bad", x, digest, 0);
        }
        x.goals(2);
        check.due("see(0, 1)", x.see(0, 1), 0);
        check.fraction("SEEN UP", x.reach(0), x.reach(1), 1, 1);
        check.due("see(0, 2)", x.see(0, 2), 1);
        check.fraction("SEEN DOWN", x.reach(0), x.reach(1), 0, 1);
        check.due("see(0, 0)", x.see(0, 0), 2);
        check.fraction("not SEEN", x.reach(0), x.reach(1), 1, 3);
        check.due("see(0, 0) again", x.see(0, 0), 0);
        check.due("the other one was not SEEN", x.info(1, 4), 0);
    }

    // promise 7
    private static void source() {
        LinkChances x = Check.bridge();
        long digest = x.digest();
        for (int s : new int[] {-1, 4, 7, Integer.MIN_VALUE, Integer.MAX_VALUE}) {
            check.due("source(" + s + ")", x.source(s), -2);
            check.changesNothing("source(" + s + ")", x, digest, 0);
        }
        check.due("source(3)", x.source(3), 0);
        check.due("source(1)", x.source(1), 3);
        check.due("source(1) again", x.source(1), 1);
        check.due("count(2)", x.count(2), 1);
        x.stations(7);
        check.due("source(6)", x.source(6), 0);
    }

    // promise 8
    private static void goals() {
        LinkChances x = Check.bridge();
        long digest = x.digest();
        for (int bits : new int[] {-1, 16, 31, Integer.MIN_VALUE, Integer.MAX_VALUE}) {
            check.due("goals(" + bits + ")", x.goals(bits), -2);
            check.changesNothing("goals(" + bits + ")", x, digest, 0);
        }
        check.due("goals(15)", x.goals(15), 8);
        check.due("goals(0)", x.goals(0), 15);
        check.due("goals(1)", x.goals(1), 0);
        check.due("the source may be a goal", x.count(4), 1);
        check.due("count(3)", x.count(3), 1);
        x.stations(7);
        check.due("goals(127)", x.goals(127), 0);
        check.due("goals(128)", x.goals(128), -2);
        x.stations(2);
        check.due("goals(4)", x.goals(4), -2);
        check.due("goals(3)", x.goals(3), 0);
    }

    // promise 9
    private static void info() {
        LinkChances x = Check.net(7, Check.l(0, 1, 1, 2), Check.l(6, 2, 4, 8));
        x.see(1, 2);
        int[] due = {2, 6, 4, 8, 2};
        for (int what = 0; what < 5; what++) check.due("info(1, " + what + ")", x.info(1, what), due[what]);
        int[] first = {0, 1, 1, 2, 0};
        for (int what = 0; what < 5; what++) check.due("info(0, " + what + ")", x.info(0, what), first[what]);
        int[][] bad = {{-1, 0}, {2, 0}, {10, 0}, {0, -1}, {0, 5}, {Integer.MAX_VALUE, 0}, {0, Integer.MIN_VALUE}};
        for (int[] c : bad) check.due("info bad", x.info(c[0], c[1]), -2);
        check.due("info changes nothing", x.count(8), 0);
    }
}
