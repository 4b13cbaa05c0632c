/** Promises 19 to 21. */
public final class WorthTest {
    private static final Check check = new Check("WorthTest");

    public static void main(String[] args) {
        worth();
        worthiest();
        better();
        check.end();
    }

    private static void worth(String of, LinkChances x, int k, long above, long below) {
        check.fraction("worth(" + k + ") of " + of, x.worth(k, 0), x.worth(k, 1), above, below);
    }

    // promise 19
    private static void worth() {
        LinkChances x = Check.net(4, Check.l(0, 1, 1, 2), Check.l(1, 2, 2, 3), Check.l(0, 2, 1, 4));
        x.goals(4);
        worth("a ring", x, 0, 1, 2);
        worth("a ring", x, 1, 3, 8);
        worth("a ring", x, 2, 2, 3);
        for (int v = 1; v <= 2; v++) {
            x.see(2, v);
            worth("a ring, itself seen", x, 2, 2, 3);
        }
        worth("a ring, another seen down", x, 0, 2, 3);
        x.see(2, 1);
        worth("a ring, another seen up", x, 0, 0, 1);
        x.see(2, 0);
        x.chance(2, 0, 9);
        worth("a ring, itself never up", x, 2, 2, 3);
        x.chance(2, 9, 9);
        worth("a ring, itself always up", x, 2, 2, 3);
        x.goals(0);
        worth("nothing to reach", x, 0, 0, 1);
        worth("the bridge", Check.bridge(), 0, 3, 8);
        worth("the bridge", Check.bridge(), 2, 1, 8);
        worth("ten beside each other", Check.fullNet(), 9, 134217728, 387420489);
        int[][] bad = {{-1, 0}, {3, 0}, {10, 0}, {0, -1}, {0, 2}, {Integer.MIN_VALUE, 0}, {Integer.MAX_VALUE, 0}, {0, Integer.MAX_VALUE}};
        for (int[] c : bad) check.due("worth bad", x.worth(c[0], c[1]), Check.LONG_BAD);
        check.due("worth of no links", new LinkChances().worth(0, 0), Check.LONG_BAD);
    }

    // promise 20
    private static void worthiest() {
        LinkChances x = new LinkChances();
        check.due("worthiest() of no links", x.worthiest(), -1);
        x = Check.net(4, Check.l(0, 1, 1, 2), Check.l(1, 2, 2, 3), Check.l(0, 2, 1, 4));
        check.due("all are worth 0", x.worthiest(), 0);
        x.goals(4);
        check.due("worthiest()", x.worthiest(), 2);
        x.see(2, 2);
        check.due("worthiest() without one seen down", x.worthiest(), 0);
        x.see(2, 1);
        check.due("of like ones the least", x.worthiest(), 0);
        x.see(0, 1);
        check.due("of those not seen", x.worthiest(), 1);
        x.see(1, 2);
        check.due("all seen", x.worthiest(), -1);
        LinkChances y = Check.bridge();
        check.due("of four like ones the least", y.worthiest(), 0);
        y.see(0, 1);
        // 1 stands beside 2 now, and 3 and 4 are what is left to the goal
        check.due("of the bridge with link 0 up", y.worthiest(), 3);
    }

    private static void better(String of, LinkChances x, int k, int p, int q, long above, long below) {
        check.fraction("better of " + of, x.better(k, p, q, 0), x.better(k, p, q, 1), above, below);
    }

    // promise 21
    private static void better() {
        LinkChances x = Check.net(4, Check.l(0, 1, 1, 2), Check.l(1, 2, 2, 3), Check.l(0, 2, 1, 4));
        x.goals(4);
        x.see(0, 2);
        long digest = x.digest();
        better("a seen one", x, 0, 1, 2, 1, 2);
        better("the third", x, 2, 1, 1, 1, 1);
        better("the third", x, 2, 0, 9, 0, 1);
        better("the third", x, 2, 4, 6, 2, 3);
        check.changesNothing("better", x, digest, 0);
        check.due("the chance stays", x.info(2, 3), 4);
        check.due("what is seen stays", x.info(0, 4), 2);
        check.fraction("reach behind it", x.reach(0), x.reach(1), 1, 4);
        x.better(2, 1, 1, 0);
        check.due("worthiest() behind it", x.worthiest(), 2);
        check.fraction("worth behind it", x.worth(1, 0), x.worth(1, 1), 0, 1);
        int[][] bad = {{-1, 1, 2, 0}, {3, 1, 2, 0}, {10, 1, 2, 0}, {0, -1, 2, 0}, {0, 3, 2, 0}, {0, 0, 0, 0}, {0, 1, 10, 0},
            {0, 1, 2, -1}, {0, 1, 2, 2}, {Integer.MAX_VALUE, 1, 2, 0}, {0, 1, Integer.MAX_VALUE, 0}, {0, 0, -1, 0}};
        for (int[] c : bad) {
            check.due("better bad", x.better(c[0], c[1], c[2], c[3]), Check.LONG_BAD);
            check.changesNothing("better bad", x, digest, 0);
        }
    }
}
