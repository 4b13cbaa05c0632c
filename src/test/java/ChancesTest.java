/** Promises 10 to 18. */
public final class ChancesTest {
    private static final Check check = new Check("ChancesTest");

    public static void main(String[] args) {
        reach();
        joined();
        joinedByKinds();
        wide();
        wideByChances();
        pair();
        rule();
        sets();
        like();
        least();
        check.end();
    }

    private static void reach(String of, LinkChances x, long above, long below) {
        check.fraction("reach of " + of, x.reach(0), x.reach(1), above, below);
        check.fraction("joined of " + of, x.joined(0), x.joined(1), above, below);
    }

    // promise 10, and the answer of promise 11
    private static void reach() {
        LinkChances x = new LinkChances();
        reach("nothing", x, 1, 1);
        x.goals(2);
        reach("no link", x, 0, 1);
        x.link(0, 1, 2, 4);
        reach("one link, in lowest terms", x, 1, 2);
        x.link(1, 2, 2, 3);
        x.goals(4);
        reach("two in a row", x, 1, 3);
        x.goals(6);
        reach("two goals in a row", x, 1, 3);
        x.goals(7);
        reach("the source a goal too", x, 1, 3);
        x.link(1, 0, 1, 2);
        x.goals(2);
        reach("two beside each other", x, 3, 4);
        x.chance(2, 0, 5);
        reach("one that never is up", x, 1, 2);
        x.chance(2, 5, 5);
        reach("one that is always up", x, 1, 1);
        x.see(2, 2);
        reach("that one seen down", x, 1, 2);
        x.see(0, 2);
        reach("both seen down", x, 0, 1);
        x.see(0, 1);
        x.chance(0, 0, 1);
        reach("seen up against its chance", x, 1, 1);
        reach("the bridge", Check.bridge(), 1, 2);
        LinkChances y = Check.bridge();
        y.source(3);
        y.goals(1);
        reach("the bridge from the other side", y, 1, 2);
        y.goals(15);
        reach("all of the bridge", y, 7, 16);
        reach("ten beside each other", Check.fullNet(), 2413042577L, 3486784401L);
        for (int what : new int[] {-1, 2, 3, Integer.MIN_VALUE, Integer.MAX_VALUE}) {
            check.due("reach(" + what + ")", x.reach(what), Check.LONG_BAD);
        }
    }

    private static void joined(String of, LinkChances x, long steps, long deep, long tidy) {
        check.due("STEPS of " + of, x.joined(2), steps);
        check.due("DEEP of " + of, x.joined(3), deep);
        check.due("TIDY of " + of, x.joined(4), tidy);
    }

    // promise 11: how many nets, how deep, how often tidied
    private static void joined() {
        LinkChances x = new LinkChances();
        joined("nothing", x, 1, 1, 0);
        x.goals(2);
        joined("a goal without a link", x, 1, 1, 0);
        joined("the bridge", Check.bridge(), 7, 3, 6);
        LinkChances sure = Check.bridge();
        sure.chance(0, 3, 3);
        joined("a first link that is always up", sure, 4, 3, 3);
        sure.chance(0, 0, 3);
        joined("a first link that never is up", sure, 4, 3, 3);
        sure.see(0, 1);
        joined("a first link seen up", sure, 4, 3, 3);
        LinkChances all = Check.bridge();
        all.goals(15);
        // all wanted: only links beside each other are tidied
        joined("all of the bridge", all, 21, 6, 3);
        joined("ten beside each other", Check.fullNet(), 3, 2, 9);
        // each of the last links can be cut only when all ahead of it were: one net more than there are links
        LinkChances five = Check.net(5, Check.l(0, 1, 1, 2), Check.l(0, 2, 1, 2), Check.l(0, 3, 1, 2), Check.l(0, 4, 1, 2),
            Check.l(1, 2, 1, 2), Check.l(1, 3, 1, 2), Check.l(1, 4, 1, 2), Check.l(2, 3, 1, 2), Check.l(2, 4, 1, 2), Check.l(3, 4, 1, 2));
        five.goals(31);
        joined("each with each of five", five, 131, 11, 30);
        five.goals(0);
        joined("the same with nothing to reach, behind it", five, 1, 1, 0);
        five.stations(5);
        joined("no links, behind all that", five, 1, 1, 0);
        for (int what : new int[] {-1, 5, 6, Integer.MIN_VALUE, Integer.MAX_VALUE}) {
            check.due("joined(" + what + ")", x.joined(what), Check.LONG_BAD);
        }
    }

    // promise 11: the kinds of tidying, each alone
    private static void joinedByKinds() {
        LinkChances ends = Check.net(4, Check.l(0, 1, 1, 2), Check.l(1, 2, 1, 2), Check.l(2, 3, 1, 2));
        joined("a row of ends, the source alone wanted", ends, 1, 1, 3);
        ends.goals(2);
        joined("a row with two ends to drop", ends, 3, 2, 2);
        ends.goals(8);
        joined("a row with two in its middle", ends, 3, 2, 2);
        ends.goals(10);
        joined("a row with one in its middle", ends, 5, 3, 1);
        LinkChances ring = Check.net(3, Check.l(0, 1, 1, 2), Check.l(1, 2, 1, 2), Check.l(2, 0, 1, 2));
        joined("a ring with nothing else wanted", ring, 1, 1, 3);
        ring.goals(6);
        // joining 0 and 1 leaves two beside each other; cutting leaves a row
        joined("a ring, all wanted", ring, 9, 4, 1);
        // the first link joins 1, which is wanted, to 0, which is not: 0 is wanted then
        LinkChances turned = Check.net(4, Check.l(0, 1, 1, 2), Check.l(0, 2, 1, 2), Check.l(0, 3, 1, 2), Check.l(1, 2, 1, 2), Check.l(2, 3, 1, 2));
        turned.source(1);
        turned.goals(8);
        check.fraction("a bridge from 1 to 3", turned.joined(0), turned.joined(1), 1, 2);
        joined("a bridge from 1 to 3", turned, 7, 3, 6);
        LinkChances apart = Check.net(5, Check.l(1, 2, 1, 2), Check.l(3, 4, 1, 2));
        joined("links apart from the source", apart, 1, 1, 2);
        LinkChances away = Check.net(5, Check.l(1, 2, 1, 2), Check.l(2, 3, 1, 2), Check.l(3, 1, 1, 2));
        away.goals(16);
        // a ring that ends in a link from a station to itself is not met: two beside each other go first
        joined("a ring apart", away, 1, 1, 3);
        check.fraction("a ring apart", away.joined(0), away.joined(1), 0, 1);
    }

    // promises 12 and 13
    private static void wide() {
        LinkChances x = new LinkChances();
        check.due("widest() of no links", x.widest(), 0);
        for (int k : new int[] {0, -1, 10, Integer.MIN_VALUE, Integer.MAX_VALUE}) check.due("wide of none", x.wide(k), -2);
        x = Check.bridge();
        int[] due = {2, 3, 3, 1, 0};
        for (int k = 0; k < 5; k++) check.due("wide(" + k + ") of the bridge", x.wide(k), due[k]);
        check.due("widest() of the bridge", x.widest(), 3);
        check.due("wide(5)", x.wide(5), -2);
        check.due("wide(-1)", x.wide(-1), -2);
        x.goals(0);
        check.due("one alone wanted: all are won", x.widest(), 0);
        LinkChances two = Check.net(2, Check.l(0, 1, 1, 2), Check.l(0, 1, 1, 2));
        two.goals(2);
        check.due("wide(0) of two beside each other", two.wide(0), 1);
        check.due("wide(1) of two beside each other", two.wide(1), 0);
        check.due("widest() behind the first", two.widest(), 1);
        // whether 1, which is open no more, is joined with 2 or with 0 makes no difference
        LinkChances y = Check.net(4, Check.l(1, 2, 1, 2), Check.l(0, 1, 1, 2), Check.l(2, 3, 1, 2), Check.l(0, 3, 1, 2));
        y.goals(8);
        int[] ring = {2, 2, 1, 0};
        for (int k = 0; k < 4; k++) check.due("wide(" + k + ") of the ring", y.wide(k), ring[k]);
    }

    private static void wideByChances() {
        LinkChances x = Check.bridge();
        x.chance(0, 4, 4);
        check.due("wide(0), link 0 always up", x.wide(0), 1);
        check.due("wide(1), link 0 always up", x.wide(1), 2);
        x.chance(0, 0, 4);
        check.due("wide(0), link 0 never up", x.wide(0), 1);
        check.due("wide(1), link 0 never up", x.wide(1), 1);
        x.see(0, 1);
        check.due("wide(1), link 0 seen up", x.wide(1), 2);
        x.chance(0, 1, 2);
        x.see(0, 2);
        check.due("wide(1), link 0 seen down", x.wide(1), 1);
        x.see(0, 0);
        x.chance(4, 0, 1);
        check.due("wide(3): open, whatever the chance", x.wide(3), 1);
        x.see(4, 2);
        check.due("wide(3): open, whatever is seen", x.wide(3), 1);
    }

    // promise 14
    private static void pair() {
        LinkChances x = Check.net(4, Check.l(0, 1, 1, 2), Check.l(1, 2, 2, 3));
        check.fraction("pair(0, 2)", x.pair(0, 2, 0), x.pair(0, 2, 1), 1, 3);
        check.fraction("pair(2, 0)", x.pair(2, 0, 0), x.pair(2, 0, 1), 1, 3);
        check.fraction("pair(1, 2)", x.pair(1, 2, 0), x.pair(1, 2, 1), 2, 3);
        check.fraction("pair(0, 3)", x.pair(0, 3, 0), x.pair(0, 3, 1), 0, 1);
        check.fraction("pair(3, 3)", x.pair(3, 3, 0), x.pair(3, 3, 1), 1, 1);
        x.source(3);
        x.goals(12);
        check.fraction("pair whatever is wanted", x.pair(0, 1, 0), x.pair(0, 1, 1), 1, 2);
        x.see(0, 1);
        check.fraction("pair with one seen", x.pair(0, 2, 0), x.pair(0, 2, 1), 2, 3);
        int[][] bad = {{-1, 0, 0}, {0, -1, 0}, {4, 0, 0}, {0, 4, 0}, {0, 1, -1}, {0, 1, 2}, {5, 5, 0},
            {Integer.MIN_VALUE, 0, 0}, {0, Integer.MAX_VALUE, 0}, {0, 1, Integer.MAX_VALUE}};
        for (int[] c : bad) check.due("pair bad", x.pair(c[0], c[1], c[2]), Check.LONG_BAD);
    }

    // promise 15
    private static void rule() {
        LinkChances x = Check.net(4, Check.l(0, 1, 1, 2), Check.l(1, 2, 1, 3));
        check.fraction("rule of a row", x.rule(0), x.rule(1), 5, 3);
        x.source(1);
        check.fraction("rule from its middle", x.rule(0), x.rule(1), 11, 6);
        x.goals(8);
        check.fraction("rule whatever the goals are", x.rule(0), x.rule(1), 11, 6);
        x.source(3);
        check.fraction("rule of one alone", x.rule(0), x.rule(1), 1, 1);
        x.source(0);
        x.see(0, 1);
        x.see(1, 1);
        check.fraction("rule with all seen up", x.rule(0), x.rule(1), 3, 1);
        for (int what : new int[] {-1, 2, Integer.MIN_VALUE, Integer.MAX_VALUE}) check.due("rule bad", x.rule(what), Check.LONG_BAD);
    }

    // promise 16
    private static void sets() {
        LinkChances x = Check.bridge();
        int[] due = {0, 0, 2, 8, 5, 1};
        for (int k = 0; k < 6; k++) check.due("sets(" + k + ") of the bridge", x.sets(k), due[k]);
        x.chance(0, 0, 1);
        x.see(1, 2);
        x.see(2, 1);
        for (int k = 0; k < 6; k++) check.due("sets(" + k + ") whatever chances are", x.sets(k), due[k]);
        x.goals(0);
        int[] all = {1, 5, 10, 10, 5, 1};
        for (int k = 0; k < 6; k++) check.due("sets(" + k + ") with one alone wanted", x.sets(k), all[k]);
        for (int k : new int[] {-1, 6, 10, 11, Integer.MIN_VALUE, Integer.MAX_VALUE}) check.due("sets bad", x.sets(k), -2);
        check.due("sets(0) of no links", new LinkChances().sets(0), 1);
        check.due("sets(1) of no links", new LinkChances().sets(1), -2);
    }

    private static void like(LinkChances x, int a, int b, long above, long below) {
        check.fraction("like(" + a + ", " + b + ")", x.like(a, b, 0), x.like(a, b, 1), above, below);
    }

    // promise 17
    private static void like() {
        LinkChances x = Check.bridge();
        like(x, 1, 2, 16, 32);
        like(x, 2, 4, 512, 1024);
        like(x, 1, 3, 2 * 8 + 8 * 4 + 5 * 2 + 1, 243);
        like(x, 2, 3, 2 * 4 + 8 * 8 + 5 * 16 + 32, 243);
        like(x, 0, 7, 0, 16807);
        like(x, 7, 7, 16807, 16807);
        like(x, 1, 1, 1, 1);
        x.chance(0, 0, 1);
        x.see(1, 2);
        like(x, 1, 2, 16, 32);
        like(new LinkChances(), 3, 99, 1, 1);
        int[][] bad = {{0, 0, 0}, {1, 0, 0}, {0, 100, 0}, {-1, 2, 0}, {3, 2, 0}, {1, 2, -1}, {1, 2, 2}, {0, -1, 0}, {-2, -1, 1},
            {Integer.MIN_VALUE, 1, 0}, {1, Integer.MAX_VALUE, 0}, {1, 2, Integer.MAX_VALUE}};
        for (int[] c : bad) check.due("like bad", x.like(c[0], c[1], c[2]), Check.LONG_BAD);
        LinkChances full = Check.fullNet();
        like(full, 78, 78, 8335775831236199424L, 8335775831236199424L);
        like(full, 0, 78, 0, 8335775831236199424L);
        like(full, 1, 2, 1023, 1024);
        like(full, 79, 79, Check.LONG_OVER, Check.LONG_OVER);
        like(full, 0, 79, Check.LONG_OVER, Check.LONG_OVER);
        like(full, 1, 99, Check.LONG_OVER, Check.LONG_OVER);
        check.due("BAD comes ahead of OVER", full.like(1, 99, 2), Check.LONG_BAD);
        check.due("BAD comes ahead of OVER", full.like(99, 98, 0), Check.LONG_BAD);
        full.back();
        like(full, 99, 99, 913517247483640899L, 913517247483640899L);
        like(full, 98, 99, 913517247483640898L, 913517247483640899L);
    }

    private static void least(String of, LinkChances x, int cut, int way) {
        check.due("CUT of " + of, x.least(0), cut);
        check.due("WAY of " + of, x.least(1), way);
    }

    // promise 18
    private static void least() {
        LinkChances x = new LinkChances();
        least("nothing", x, -1, 0);
        x.goals(1);
        least("the source its own goal", x, -1, 0);
        x.goals(2);
        least("no link", x, 0, -1);
        x.link(0, 2, 1, 1);
        least("a link elsewhere", x, 0, -1);
        x.goals(0);
        least("one alone wanted", x, -1, 0);
        LinkChances y = Check.bridge();
        least("the bridge", y, 2, 2);
        y.see(0, 2);
        y.see(1, 2);
        y.chance(3, 0, 1);
        least("the bridge whatever is seen", y, 2, 2);
        y.goals(15);
        least("all of the bridge", y, 2, 3);
        y.back();
        y.goals(8);
        least("the bridge less one", y, 1, 2);
        least("ten beside each other", Check.fullNet(), 10, 1);
        LinkChances row = Check.net(7, Check.l(0, 1, 0, 1), Check.l(1, 2, 0, 1), Check.l(2, 3, 0, 1),
            Check.l(3, 4, 0, 1), Check.l(4, 5, 0, 1), Check.l(5, 6, 0, 1));
        row.goals(64);
        least("a row of seven", row, 1, 6);
        for (int what : new int[] {-1, 2, Integer.MIN_VALUE, Integer.MAX_VALUE}) check.due("least bad", x.least(what), -2);
    }
}
