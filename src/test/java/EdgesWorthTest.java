/** Boundary cases of promises 19 to 21. */
public final class EdgesWorthTest extends Edges {
    private static final int[] NO_SIDES = {LEAST, LEAST + 1, -2, -1, 2, 3, MOST - 1, MOST};
    private static final int[] NO_LINK_EVER = {LEAST, LEAST + 1, -2, -1, 10, 11, MOST - 1, MOST};

    public static void main(String[] args) {
        run(EdgesWorthTest.class, 19, 21);
    }

    private static void worth(String of, LinkChances x, int k, long above, long below) {
        fraction("worth(" + k + ") of " + of, x.worth(k, 0), x.worth(k, 1), above, below);
    }

    private static void better(String of, LinkChances x, int k, int p, int q, long above, long below) {
        fraction("better of " + of, x.better(k, p, q, 0), x.better(k, p, q, 1), above, below);
    }

    private static LinkChances ring() {
        LinkChances x = Check.net(4, Check.l(0, 1, 1, 2), Check.l(1, 2, 2, 3), Check.l(0, 2, 1, 4));
        x.goals(4);
        return x;
    }

    // ---- promise 19: worth

    static void promise19_noLinksIsBad() {
        refusedOn(LinkChances::new, "worth", LONG_BAD, numbers(0, 1, 9), (x, k) -> x.worth(k, 0));
    }

    static void promise19_noSuchLinkIsBad() {
        refused("worth", LONG_BAD, NO_LINK_EVER, (x, k) -> x.worth(k, 0));
        refusedOn(Edges::busyDesk, "worth", LONG_BAD, numbers(6, 7, 9), (x, k) -> x.worth(k, 1));
    }

    static void promise19_noSuchSideIsBad() {
        refusedOn(Edges::busyDesk, "worth", LONG_BAD, NO_SIDES, (x, what) -> x.worth(0, what));
        refusedOn(Edges::fullDesk, "worth", LONG_BAD, NO_SIDES, (x, what) -> x.worth(9, what));
        refused("worth, all wrong", LONG_BAD, numbers(LEAST, -1, 10, MOST), (x, v) -> x.worth(v, v));
    }

    static void promise19_zeroByOne() {
        LinkChances x = Check.bridge();
        x.goals(0);
        for (int k = 0; k < 5; k++) worth("the bridge, nothing to reach", x, k, 0, 1);
        x.goals(1);
        for (int k = 0; k < 5; k++) worth("the bridge, the source a goal", x, k, 0, 1);
        LinkChances apart = Check.net(3, Check.l(0, 1, 1, 2));
        apart.goals(4);
        worth("a link, the goal apart", apart, 0, 0, 1);
        LinkChances sure = beside(10, 1, 9);
        sure.chance(0, 9, 9);
        worth("one beside a sure one", sure, 9, 0, 1);
        worth("the sure one", sure, 0, 134217728, 387420489);
        LinkChances never = row(2, 1, 2);
        never.chance(1, 0, 9);
        worth("one behind one that never is up", never, 0, 0, 1);
        worth("the one that never is up", never, 1, 1, 2);
    }

    static void promise19_oneByOne() {
        for (int q = 1; q <= 9; q++) {
            for (int p = 0; p <= q; p++) worth("one link", beside(1, p, q), 0, 1, 1);
        }
        LinkChances x = row(6, 9, 9);
        for (int k = 0; k < 6; k++) worth("a sure row", x, k, 1, 1);
        LinkChances y = beside(10, 0, 9);
        for (int k = 0; k < 10; k++) worth("ten that are down", y, k, 1, 1);
    }

    static void promise19_theFirstAndTheLastOfTen() {
        LinkChances x = beside(10, 1, 9);
        worth("ten", x, 0, 134217728, 387420489);
        worth("ten", x, 9, 134217728, 387420489);
        LinkChances y = row(6, 1, 9);
        worth("six in a row", y, 0, 1, 59049);
        worth("six in a row", y, 5, 1, 59049);
    }

    static void promise19_whateverItIsSeenAs() {
        LinkChances x = ring();
        for (int v = 0; v <= 2; v++) {
            x.see(2, v);
            worth("a ring, SEEN " + v, x, 2, 2, 3);
        }
        LinkChances y = ring();
        for (int v = 0; v <= 2; v++) {
            y.see(0, v);
            worth("a ring, SEEN " + v, y, 0, 1, 2);
        }
    }

    static void promise19_whateverItsOwnChanceIs() {
        LinkChances x = ring();
        for (int q = 1; q <= 9; q++) {
            for (int p = 0; p <= q; p++) {
                x.chance(2, p, q);
                worth("a ring", x, 2, 2, 3);
            }
        }
    }

    static void promise19_allOthersAsTheyAreSeen() {
        LinkChances x = ring();
        x.see(2, 2);
        worth("the third down", x, 0, 2, 3);
        worth("the third down", x, 1, 1, 2);
        x.see(2, 1);
        worth("the third up", x, 0, 0, 1);
        worth("the third up", x, 1, 0, 1);
        x.see(0, 2);
        x.see(1, 2);
        worth("both others down", x, 2, 1, 1);
        x.see(0, 1);
        x.see(1, 1);
        worth("both others up", x, 2, 0, 1);
    }

    static void promise19_changesNothing() {
        leavesNothing(Edges::busyDesk, "worth", x -> x.worth(1, 0));
        leavesNothing(Edges::fullDesk, "worth", x -> x.worth(9, 1));
    }

    // ---- promise 20: worthiest

    static void promise20_noLinksIsNone() {
        LinkChances x = new LinkChances();
        due("nothing to reach", x.worthiest(), NONE);
        x.goals(15);
        due("all goals", x.worthiest(), NONE);
    }

    static void promise20_allSeenIsNone() {
        LinkChances x = tenLinks();
        x.goals(64);
        for (int k = 0; k < 10; k++) x.see(k, 1 + k % 2);
        due("all ten SEEN", x.worthiest(), NONE);
        LinkChances y = beside(1, 1, 2);
        y.see(0, 1);
        due("one SEEN UP", y.worthiest(), NONE);
        y.see(0, 2);
        due("one SEEN DOWN", y.worthiest(), NONE);
        y.see(0, 0);
        due("one not SEEN", y.worthiest(), 0);
    }

    static void promise20_oneAloneNotSeen() {
        for (int alone = 0; alone < 10; alone++) {
            LinkChances x = beside(10, 1, 9);
            for (int k = 0; k < 10; k++) {
                if (k != alone) x.see(k, 2);
            }
            due("only " + alone, x.worthiest(), alone);
            x.goals(0);
            due("only " + alone + ", of worth 0", x.worthiest(), alone);
        }
    }

    static void promise20_ofLikeOnesTheLeast() {
        LinkChances x = beside(10, 1, 9);
        for (int k = 0; k < 9; k++) {
            due("like ones", x.worthiest(), k);
            x.see(k, 2);
        }
        due("the last", x.worthiest(), 9);
    }

    static void promise20_likeOnesWithOtherNumbers() {
        // 2 by 4 and 1 by 2 are worth the same, as both others are
        LinkChances x = Check.net(2, Check.l(0, 1, 4, 8), Check.l(0, 1, 1, 2), Check.l(0, 1, 3, 6));
        x.goals(2);
        due("halves told in three ways", x.worthiest(), 0);
        x.see(0, 2);
        due("the last two of them", x.worthiest(), 1);
    }

    static void promise20_allOfWorthZeroGivesTheLeast() {
        LinkChances x = Check.bridge();
        x.goals(0);
        due("nothing to reach", x.worthiest(), 0);
        x.see(0, 1);
        x.see(1, 2);
        due("the first two SEEN", x.worthiest(), 2);
    }

    static void promise20_byLittleMore() {
        for (int most = 0; most < 10; most++) {
            LinkChances x = beside(10, 7, 8);
            x.chance(most, 8, 9);
            due("the one that is up more often", x.worthiest(), most);
            LinkChances y = row(6, 8, 9);
            y.chance(most % 6, 7, 8);
            due("the one that is up less often", y.worthiest(), most % 6);
        }
    }

    static void promise20_asFractionsNotAsNumbers() {
        // 1 by 2, 3 by 8, 2 by 3
        due("the greatest fraction", ring().worthiest(), 2);
    }

    static void promise20_theSeenOneThatIsWorthMost() {
        LinkChances x = ring();
        for (int v = 1; v <= 2; v++) {
            x.see(2, v);
            due("SEEN " + v, x.worthiest(), 0);
        }
        x.see(2, 0);
        due("not SEEN", x.worthiest(), 2);
    }

    static void promise20_changesNothing() {
        leavesNothing(Edges::busyDesk, "worthiest()", LinkChances::worthiest);
        leavesNothing(Edges::fullDesk, "worthiest()", LinkChances::worthiest);
    }

    // ---- promise 21: better

    static void promise21_noLinksIsBad() {
        refusedOn(LinkChances::new, "better", LONG_BAD, numbers(0, 1, 9), (x, k) -> x.better(k, 1, 2, 0));
    }

    static void promise21_noSuchLinkIsBad() {
        refused("better", LONG_BAD, NO_LINK_EVER, (x, k) -> x.better(k, 1, 2, 0));
        refusedOn(Edges::busyDesk, "better", LONG_BAD, numbers(6, 7, 9), (x, k) -> x.better(k, 1, 2, 1));
    }

    static void promise21_noChanceIsBad() {
        int[][] none = {{-1, 1}, {-1, 9}, {LEAST, 1}, {2, 1}, {10, 9}, {MOST, 9}, {0, 0}, {1, 0}, {0, -1}, {0, LEAST}, {0, 10}, {10, 10},
            {0, MOST}, {MOST, MOST}, {-1, -1}, {LEAST, LEAST}, {LEAST, MOST}, {MOST, LEAST}};
        for (int[] c : none) {
            refusedOn(Edges::busyDesk, "better " + c[0] + " by " + c[1], LONG_BAD, x -> x.better(0, c[0], c[1], 0));
            refusedOn(Edges::fullDesk, "better " + c[0] + " by " + c[1], LONG_BAD, x -> x.better(9, c[0], c[1], 1));
        }
    }

    static void promise21_noSuchSideIsBad() {
        refusedOn(Edges::busyDesk, "better", LONG_BAD, NO_SIDES, (x, what) -> x.better(0, 1, 2, what));
        refusedOn(Edges::fullDesk, "better", LONG_BAD, NO_SIDES, (x, what) -> x.better(9, 9, 9, what));
        refused("better, all wrong", LONG_BAD, numbers(LEAST, -1, 10, MOST), (x, v) -> x.better(v, v, v, v));
    }

    static void promise21_everyChance() {
        for (int q = 1; q <= 9; q++) {
            LinkChances x = beside(1, 1, 2);
            for (int p = 0; p <= q; p++) better("one link", x, 0, p, q, lowest(p, q, 0), lowest(p, q, 1));
        }
    }

    static void promise21_theFirstAndTheLastOfTen() {
        LinkChances x = beside(10, 1, 9);
        for (int k : new int[] {0, 9}) {
            better("ten, one as it is", x, k, 1, 9, 2413042577L, 3486784401L);
            better("ten, one up for sure", x, k, 9, 9, 1, 1);
            better("ten, one never up", x, k, 0, 1, 253202761, 387420489);
        }
    }

    static void promise21_asIfItWereNotSeen() {
        for (int v = 0; v <= 2; v++) {
            LinkChances x = beside(1, 1, 2);
            x.see(0, v);
            better("one SEEN " + v, x, 0, 1, 3, 1, 3);
            better("one SEEN " + v, x, 0, 0, 3, 0, 1);
            better("one SEEN " + v, x, 0, 3, 3, 1, 1);
            due("SEEN stays", x.info(0, 4), v);
        }
    }

    static void promise21_theOthersAsTheyAreSeen() {
        LinkChances x = ring();
        x.see(0, 2);
        better("another one down", x, 2, 1, 5, 1, 5);
        x.see(0, 1);
        x.see(1, 1);
        better("both others up", x, 2, 0, 9, 1, 1);
    }

    static void promise21_nothingOfItStays() {
        int[][] all = {{0, 1, 1}, {0, 0, 1}, {1, 9, 9}, {2, 5, 7}, {4, 1, 2}, {5, 0, 9}};
        for (int[] b : all) leavesNothing(Edges::busyDesk, "better", x -> x.better(b[0], b[1], b[2], 0));
        for (int[] b : all) leavesNothing(Edges::fullDesk, "better", x -> x.better(b[0] + 4, b[1], b[2], 1));
    }

    static void promise21_whatIsAskedNextIsAsItWas() {
        LinkChances x = ring();
        long above = x.reach(0), below = x.reach(1), worth = x.worth(0, 1);
        x.better(2, 1, 1, 0);
        reach("the ring", x, above, below);
        x.better(2, 0, 1, 1);
        due("worth(0, 1)", x.worth(0, 1), worth);
        x.better(2, 1, 1, 1);
        due("worthiest()", x.worthiest(), 2);
        x.better(2, 0, 1, 0);
        fraction("pair(0, 2)", x.pair(0, 2, 0), x.pair(0, 2, 1), above, below);
        due("p", x.info(2, 2), 1);
        due("q", x.info(2, 3), 4);
    }
}
