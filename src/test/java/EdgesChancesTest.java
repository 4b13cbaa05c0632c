import java.math.BigInteger;

/** Boundary cases of promises 10 to 18. */
public final class EdgesChancesTest extends Edges {
    private static final int[] NO_SIDES = {LEAST, LEAST + 1, -2, -1, 2, 3, MOST - 1, MOST};
    private static final int[] NO_LINK_EVER = {LEAST, LEAST + 1, -2, -1, 10, 11, MOST - 1, MOST};
    private static final int[] NO_STATION_EVER = {LEAST, LEAST + 1, -2, -1, 7, 8, MOST - 1, MOST};

    public static void main(String[] args) {
        run(EdgesChancesTest.class, 10, 18);
    }

    private static void joined(String of, LinkChances x, long above, long below, long steps, long deep, long tidy) {
        long[] due = {above, below, steps, deep, tidy};
        for (int what = 0; what < 5; what++) due("joined(" + what + ") of " + of, x.joined(what), due[what]);
    }

    private static void wide(String of, LinkChances x, int... due) {
        int widest = 0;
        for (int k = 0; k < due.length; k++) {
            due("wide(" + k + ") of " + of, x.wide(k), due[k]);
            widest = Math.max(widest, due[k]);
        }
        due("wide(" + due.length + ") of " + of, x.wide(due.length), BAD);
        due("widest() of " + of, x.widest(), widest);
    }

    /** Each of the pairs a link that is up by a half. */
    private static LinkChances halves(int n, int goals, int... ends) {
        LinkChances x = new LinkChances();
        x.stations(n);
        for (int i = 0; i + 1 < ends.length; i += 2) x.link(ends[i], ends[i + 1], 1, 2);
        x.goals(goals);
        return x;
    }

    private static LinkChances fourWithEach(int goals) {
        return halves(4, goals, 0, 1, 0, 2, 0, 3, 1, 2, 1, 3, 2, 3);
    }

    private static LinkChances fiveWithEach(int goals) {
        return halves(5, goals, 0, 1, 0, 2, 0, 3, 0, 4, 1, 2, 1, 3, 1, 4, 2, 3, 2, 4, 3, 4);
    }

    private static LinkChances ring() {
        return halves(3, 4, 0, 1, 1, 2, 0, 2);
    }

    // ---- promise 10: reach

    static void promise10_belowZeroAndAboveOneIsBad() {
        refused("reach", LONG_BAD, NO_SIDES, LinkChances::reach);
    }

    static void promise10_noLinks() {
        for (int n = 2; n <= 7; n++) {
            LinkChances x = new LinkChances();
            x.stations(n);
            reach("no goals", x, 1, 1);
            x.goals(1);
            reach("the source a goal", x, 1, 1);
            x.goals(2);
            reach("a goal", x, 0, 1);
            x.source(1);
            reach("it the source", x, 1, 1);
            x.goals((1 << n) - 1);
            reach("all goals", x, 0, 1);
        }
    }

    static void promise10_everyChanceInLowestTerms() {
        for (int q = 1; q <= 9; q++) {
            for (int p = 0; p <= q; p++) reach(p + " by " + q, beside(1, p, q), lowest(p, q, 0), lowest(p, q, 1));
        }
    }

    static void promise10_zeroIsZeroByOne() {
        reach("0 by 9", beside(1, 0, 9), 0, 1);
        reach("ten of 0 by 9", beside(10, 0, 9), 0, 1);
        reach("8 by 9 without the goal", Check.net(3, Check.l(0, 1, 8, 9), Check.l(0, 1, 8, 9)), 1, 1);
        LinkChances x = Check.net(3, Check.l(0, 1, 8, 9), Check.l(0, 1, 8, 9));
        x.goals(4);
        reach("a goal without a link", x, 0, 1);
    }

    static void promise10_oneIsOneByOne() {
        reach("9 by 9", beside(1, 9, 9), 1, 1);
        reach("ten of 9 by 9", beside(10, 9, 9), 1, 1);
        reach("six of 7 by 7 in a row", row(6, 7, 7), 1, 1);
        LinkChances x = beside(10, 1, 9);
        x.chance(9, 5, 5);
        reach("one of ten sure", x, 1, 1);
    }

    static void promise10_numbersAboveTheGreatestInt() {
        reach("ten of 1 by 9", beside(10, 1, 9), 2413042577L, 3486784401L);
        reach("ten of 8 by 9", beside(10, 8, 9), 3486784400L, 3486784401L);
    }

    static void promise10_sixInARow() {
        reach("six of 1 by 9", row(6, 1, 9), 1, 531441);
        reach("six of 8 by 9", row(6, 8, 9), 262144, 531441);
        LinkChances x = row(6, 1, 9);
        x.goals(127);
        reach("all of them", x, 1, 531441);
        x.source(6);
        reach("all from the other end", x, 1, 531441);
    }

    static void promise10_allSeen() {
        LinkChances x = row(6, 1, 9);
        for (int k = 0; k < 6; k++) x.see(k, 1);
        reach("all SEEN UP", x, 1, 1);
        x.see(3, 2);
        reach("one SEEN DOWN", x, 0, 1);
        x.see(3, 0);
        reach("one not SEEN", x, 1, 9);
    }

    static void promise10_changesNothing() {
        for (int what = 0; what < 2; what++) {
            int asked = what;
            leavesNothing(Edges::busyDesk, "reach", x -> x.reach(asked));
            leavesNothing(Edges::fullDesk, "reach", x -> x.reach(asked));
        }
    }

    // ---- promise 11: joined

    static void promise11_belowZeroAndAboveFourIsBad() {
        refused("joined", LONG_BAD, numbers(LEAST, LEAST + 1, -2, -1, 5, 6, MOST - 1, MOST), LinkChances::joined);
    }

    static void promise11_noLinks() {
        LinkChances x = new LinkChances();
        joined("nothing", x, 1, 1, 1, 1, 0);
        x.goals(1);
        joined("the source a goal", x, 1, 1, 1, 1, 0);
        x.goals(8);
        joined("a goal", x, 0, 1, 1, 1, 0);
        x.goals(15);
        joined("all goals", x, 0, 1, 1, 1, 0);
    }

    static void promise11_oneStationAloneIsWanted() {
        joined("four, nothing to tidy", fourWithEach(0), 1, 1, 1, 1, 0);
        joined("four, the source a goal", fourWithEach(1), 1, 1, 1, 1, 0);
        joined("five", fiveWithEach(0), 1, 1, 1, 1, 0);
        LinkChances x = row(6, 1, 9);
        x.goals(0);
        joined("a row, which is tidied first", x, 1, 1, 1, 1, 6);
    }

    static void promise11_aWantedOneWithoutLinks() {
        joined("a goal apart", halves(4, 8, 0, 1, 1, 2, 2, 0), 0, 1, 1, 1, 3);
        joined("the source apart", halves(4, 8, 1, 2, 2, 3, 3, 1), 0, 1, 1, 1, 3);
        // links that do not lead to the other one are tidied away first
        joined("both with links, which do not meet", halves(4, 8, 0, 1, 2, 3), 0, 1, 1, 1, 2);
        joined("both with links to wanted ones, which do not meet", halves(4, 14, 0, 1, 2, 3), 0, 1, 3, 2, 0);
    }

    static void promise11_chanceZeroAsksOneNetOnly() {
        joined("0 by 1", beside(1, 0, 1), 0, 1, 2, 2, 0);
        joined("0 by 9", beside(1, 0, 9), 0, 1, 2, 2, 0);
        LinkChances x = beside(1, 9, 9);
        x.see(0, 2);
        joined("9 by 9 SEEN DOWN", x, 0, 1, 2, 2, 0);
    }

    static void promise11_chanceOneAsksOneNetOnly() {
        joined("1 by 1", beside(1, 1, 1), 1, 1, 2, 2, 0);
        joined("9 by 9", beside(1, 9, 9), 1, 1, 2, 2, 0);
        LinkChances x = beside(1, 0, 9);
        x.see(0, 1);
        joined("0 by 9 SEEN UP", x, 1, 1, 2, 2, 0);
    }

    static void promise11_chanceBetweenAsksBoth() {
        joined("1 by 9", beside(1, 1, 9), 1, 9, 3, 2, 0);
        joined("8 by 9", beside(1, 8, 9), 8, 9, 3, 2, 0);
    }

    static void promise11_chancesZeroAndOneByTidying() {
        joined("two beside each other, one sure", Check.net(2, Check.l(0, 1, 1, 1), Check.l(0, 1, 1, 2)), 1, 1, 1, 1, 2);
        joined("ten of 0 by 1", beside(10, 0, 1), 0, 1, 2, 2, 9);
        joined("ten of 1 by 1", beside(10, 1, 1), 1, 1, 2, 2, 9);
        LinkChances sure = beside(2, 1, 2);
        sure.chance(1, 5, 5);
        joined("a half and one that is sure", sure, 1, 1, 2, 2, 1);
        LinkChances never = row(2, 1, 1);
        never.chance(1, 0, 3);
        joined("a sure one and one that never is up, in a row", never, 0, 1, 2, 2, 1);
        joined("two sure ones in a row", row(2, 3, 3), 1, 1, 2, 2, 1);
        LinkChances half = beside(2, 1, 2);
        half.chance(0, 0, 5);
        joined("one that never is up and a half", half, 1, 2, 3, 2, 1);
    }

    static void promise11_linksBesideEachOther() {
        joined("two", beside(2, 1, 2), 3, 4, 3, 2, 1);
        joined("three", beside(3, 1, 2), 7, 8, 3, 2, 2);
        joined("ten", beside(10, 1, 9), 2413042577L, 3486784401L, 3, 2, 9);
        joined("ten of 8 by 9", beside(10, 8, 9), 3486784400L, 3486784401L, 3, 2, 9);
        joined("two told with turned ends", halves(2, 2, 0, 1, 1, 0), 3, 4, 3, 2, 1);
    }

    static void promise11_theOnlyLinkAtAStation() {
        joined("one that is not wanted", halves(3, 2, 0, 1, 1, 2), 1, 2, 3, 2, 1);
        joined("one that is wanted", halves(3, 6, 0, 1, 1, 2), 1, 4, 5, 3, 0);
        joined("two of them", halves(4, 2, 0, 1, 1, 2, 1, 3), 1, 2, 3, 2, 2);
        joined("two of them in a row", halves(4, 2, 0, 1, 1, 2, 2, 3), 1, 2, 3, 2, 2);
        joined("a link of which both ends are such", halves(4, 2, 0, 1, 2, 3), 1, 2, 3, 2, 1);
    }

    static void promise11_theOnlyTwoLinksAtAStation() {
        joined("one that is not wanted", halves(3, 4, 0, 1, 1, 2), 1, 4, 3, 2, 1);
        joined("six in a row", row(6, 1, 9), 1, 531441, 3, 2, 5);
        joined("a ring of five", halves(5, 4, 0, 1, 1, 2, 2, 3, 3, 4, 4, 0), 11, 32, 3, 2, 4);
        joined("a ring of three", ring(), 5, 8, 3, 2, 2);
        LinkChances all = row(6, 1, 9);
        all.goals(127);
        joined("six in a row, all wanted", all, 1, 531441, 13, 7, 0);
    }

    static void promise11_theLesserEndStaysAndIsWanted() {
        // 0 becomes wanted when 1, which is the source, is joined to it
        LinkChances x = Check.bridge();
        x.source(1);
        x.goals(4);
        fraction("1 to 2", x.joined(0), x.joined(1), 23, 32);
        fraction("1 to 2, by all sets", x.reach(0), x.reach(1), 23, 32);
        LinkChances y = halves(3, 4, 2, 1, 1, 0, 0, 2);
        y.source(1);
        joined("a ring, from its last stations", y, 5, 8, 3, 2, 2);
    }

    static void promise11_deepestIsElevenNets() {
        joined("five, each with each, all wanted", fiveWithEach(31), 91, 128, 131, 11, 30);
        LinkChances x = tenLinks();
        x.goals(127);
        joined("ten links, all seven wanted", x, 46453, 69984, 443, 11, 31);
    }

    static void promise11_otherGoalsOfTheSameTen() {
        LinkChances x = tenLinks();
        x.goals(64);
        joined("0 to 6", x, 43009, 45360, 19, 5, 31);
        x.source(3);
        joined("3 to 6", x, 1946327, 2099520, 33, 7, 42);
        joined("five, to the last", fiveWithEach(16), 437, 512, 29, 7, 33);
        joined("four, to the last", fourWithEach(8), 3, 4, 7, 3, 8);
        joined("four, all", fourWithEach(15), 19, 32, 31, 7, 6);
    }

    static void promise11_eachCallCountsAnew() {
        LinkChances x = Check.bridge();
        for (int i = 0; i < 3; i++) joined("the bridge again", x, 1, 2, 7, 3, 6);
        x.goals(0);
        joined("nothing to reach behind it", x, 1, 1, 1, 1, 5);
        x.stations(2);
        joined("nothing at all behind it", x, 1, 1, 1, 1, 0);
    }

    static void promise11_changesNothing() {
        for (int what = 0; what < 5; what++) {
            int asked = what;
            leavesNothing(Edges::busyDesk, "joined(" + what + ")", x -> x.joined(asked));
            leavesNothing(Edges::fullDesk, "joined(" + what + ")", x -> x.joined(asked));
        }
    }

    // ---- promise 12: wide

    static void promise12_noLinksIsBad() {
        refusedOn(LinkChances::new, "wide", BAD, numbers(0, 1, 9), LinkChances::wide);
    }

    static void promise12_noSuchLinkIsBad() {
        refused("wide", BAD, NO_LINK_EVER, LinkChances::wide);
        refusedOn(Edges::busyDesk, "wide", BAD, numbers(6, 7, 9), LinkChances::wide);
    }

    static void promise12_behindTheLastLinkNothingIsOpen() {
        wide("one link", beside(1, 1, 2), 0);
        due("the last of ten", beside(10, 1, 2).wide(9), 0);
        due("the last of the bridge", Check.bridge().wide(4), 0);
        due("the last of five with each", fiveWithEach(31).wide(9), 0);
    }

    static void promise12_oneStationAloneIsWanted() {
        wide("five with each", fiveWithEach(0), 0, 0, 0, 0, 0, 0, 0, 0, 0, 0);
        wide("the source a goal", fourWithEach(1), 0, 0, 0, 0, 0, 0);
    }

    static void promise12_aWantedOneWithoutLinksLosesAll() {
        wide("a goal apart", halves(5, 16, 0, 1, 1, 2, 2, 0), 0, 0, 0);
        wide("the source apart", halves(5, 16, 1, 2, 2, 4, 4, 1), 0, 0, 0);
    }

    static void promise12_anOpenOneIsJoinedWithItself() {
        // 0 and 1 have no link up, but each is open still
        wide("two beside each other", beside(2, 1, 2), 1, 0);
        wide("ten beside each other", beside(10, 1, 2), 1, 1, 1, 1, 1, 1, 1, 1, 1, 0);
        wide("six in a row", row(6, 1, 9), 1, 1, 1, 1, 1, 0);
    }

    static void promise12_chanceZeroIsDown() {
        for (int v = 0; v < 2; v++) {
            LinkChances x = Check.bridge();
            if (v == 0) x.chance(0, 0, 9);
            else x.see(0, 2);
            wide("the bridge without link 0", x, 1, 1, 2, 1, 0);
        }
    }

    static void promise12_chanceOneIsUp() {
        for (int v = 0; v < 2; v++) {
            LinkChances x = Check.bridge();
            if (v == 0) x.chance(0, 9, 9);
            else x.see(0, 1);
            wide("the bridge with link 0 for sure", x, 1, 2, 2, 1, 0);
        }
        wide("one sure beside nine", sureFirst(), 0, 0, 0, 0, 0, 0, 0, 0, 0, 0);
    }

    private static LinkChances sureFirst() {
        LinkChances x = beside(10, 1, 2);
        x.chance(0, 1, 1);
        return x;
    }

    static void promise12_seenAgainstTheChance() {
        LinkChances x = Check.bridge();
        x.chance(0, 0, 9);
        x.see(0, 1);
        wide("0 by 9 SEEN UP", x, 1, 2, 2, 1, 0);
        x.chance(0, 9, 9);
        x.see(0, 2);
        wide("9 by 9 SEEN DOWN", x, 1, 1, 2, 1, 0);
    }

    static void promise12_openWhateverTheChance() {
        LinkChances x = beside(2, 1, 2);
        x.chance(1, 0, 1);
        wide("the second never up", x, 1, 0);
        x.chance(1, 1, 1);
        wide("the second always up", x, 1, 0);
        x.see(1, 2);
        wide("the second SEEN DOWN", x, 1, 0);
        x.see(1, 1);
        wide("the second SEEN UP", x, 1, 0);
    }

    static void promise12_allAreSure() {
        LinkChances up = row(6, 1, 1), down = row(6, 0, 1);
        wide("all up", up, 1, 1, 1, 1, 1, 0);
        wide("all down", down, 0, 0, 0, 0, 0, 0);
        wide("all up, beside each other", beside(10, 1, 1), 0, 0, 0, 0, 0, 0, 0, 0, 0, 0);
        wide("all down, beside each other", beside(10, 0, 1), 1, 1, 1, 1, 1, 1, 1, 1, 1, 0);
    }

    static void promise12_joinedWithAWantedOneInBothOrInNeither() {
        // behind link 2 the sets of 0, 2 and of 1, 2 differ in this alone: the open 0 is joined with a wanted one, or is not
        LinkChances x = halves(5, 20, 0, 1, 1, 3, 2, 3, 0, 4, 3, 4);
        x.source(1);
        wide("the first station", x, 2, 3, 3, 1, 0);
        LinkChances y = halves(7, 20, 6, 5, 5, 3, 4, 3, 6, 2, 3, 2);
        y.source(5);
        wide("the last station", y, 2, 3, 3, 1, 0);
    }

    static void promise12_theSameWithWhateverStations() {
        // the net of the test ahead, with its five stations in all places among seven
        for (int code = 0; code < 7 * 7 * 7 * 7 * 7; code++) {
            int a = code % 7, b = code / 7 % 7, c = code / 49 % 7, d = code / 343 % 7, e = code / 2401;
            if (Integer.bitCount(1 << a | 1 << b | 1 << c | 1 << d | 1 << e) < 5) continue;
            LinkChances x = halves(7, 1 << c | 1 << e, a, b, b, d, c, d, a, e, d, e);
            x.source(b);
            wide("stations " + code, x, 2, 3, 3, 1, 0);
        }
    }

    static void promise12_tenLinksFromEachStation() {
        int[][] due = {{0, 8, 2, 4, 7, 14, 28, 56, 49, 20, 1, 0}, {0, 18, 2, 4, 8, 15, 30, 60, 52, 16, 1, 0}, {1, 16, 2, 4, 8, 14, 28, 56, 49, 10, 1, 0},
            {1, 36, 2, 4, 8, 16, 30, 60, 52, 12, 1, 0}, {2, 32, 2, 4, 8, 16, 28, 56, 49, 10, 1, 0}, {2, 72, 2, 4, 8, 16, 32, 60, 79, 24, 1, 0},
            {3, 17, 2, 4, 8, 15, 30, 60, 52, 22, 1, 0}, {4, 1, 2, 4, 8, 15, 30, 60, 45, 16, 1, 0}, {4, 34, 2, 4, 8, 16, 30, 60, 52, 12, 1, 0},
            {5, 2, 2, 4, 8, 16, 30, 60, 45, 9, 1, 0}, {5, 68, 2, 4, 8, 16, 32, 60, 73, 17, 1, 0}, {6, 4, 2, 4, 8, 16, 32, 60, 73, 17, 1, 0},
            {6, 9, 2, 4, 8, 16, 32, 63, 73, 27, 1, 0}};
        for (int[] d : due) {
            LinkChances x = tenLinks();
            x.source(d[0]);
            x.goals(d[1]);
            wide("ten links from " + d[0] + " to " + d[1], x, d[2], d[3], d[4], d[5], d[6], d[7], d[8], d[9], d[10], d[11]);
        }
    }

    static void promise12_changesNothing() {
        for (int k : new int[] {0, 5}) leavesNothing(Edges::busyDesk, "wide(" + k + ")", x -> x.wide(k));
        for (int k : new int[] {0, 5, 9}) leavesNothing(Edges::fullDesk, "wide(" + k + ")", x -> x.wide(k));
    }

    // ---- promise 13: widest

    static void promise13_noLinksIsZero() {
        for (int n = 2; n <= 7; n++) {
            LinkChances x = new LinkChances();
            x.stations(n);
            due("no goals", x.widest(), 0);
            x.goals((1 << n) - 1);
            due("all goals", x.widest(), 0);
        }
    }

    static void promise13_theGreatestInTheMiddleAndAtBothEnds() {
        wide("four with each", fourWithEach(8), 2, 4, 3, 3, 1, 0);
        wide("five with each, all wanted", fiveWithEach(31), 2, 4, 8, 11, 12, 13, 4, 4, 1, 0);
        wide("two links: the first", beside(2, 1, 2), 1, 0);
        wide("one link: the last", beside(1, 1, 2), 0);
        LinkChances x = tenLinks();
        x.goals(127);
        wide("ten links, all seven wanted", x, 2, 4, 8, 16, 32, 63, 57, 13, 1, 0);
        x.goals(64);
        x.source(3);
        wide("ten links, 3 to 6", x, 2, 4, 8, 16, 32, 56, 73, 22, 1, 0);
    }

    static void promise13_behindBackAndStations() {
        LinkChances x = fiveWithEach(31);
        due("ten links", x.widest(), 13);
        for (int k = 0; k < 10; k++) x.back();
        due("none left", x.widest(), 0);
        LinkChances y = fiveWithEach(31);
        y.stations(5);
        due("no links then", y.widest(), 0);
    }

    static void promise13_changesNothing() {
        leavesNothing(Edges::busyDesk, "widest()", LinkChances::widest);
        leavesNothing(Edges::fullDesk, "widest()", LinkChances::widest);
    }

    // ---- promise 14: pair

    static void promise14_noSuchStationIsBad() {
        refused("pair of", LONG_BAD, NO_STATION_EVER, (x, a) -> x.pair(a, 0, 0));
        refused("pair with", LONG_BAD, NO_STATION_EVER, (x, b) -> x.pair(0, b, 1));
        refusedOn(Edges::busyDesk, "pair of", LONG_BAD, numbers(5, 6), (x, a) -> x.pair(a, 0, 0));
        refusedOn(Edges::busyDesk, "pair with", LONG_BAD, numbers(5, 6), (x, b) -> x.pair(0, b, 0));
    }

    static void promise14_noSuchStationTwiceIsBad() {
        refused("pair of itself", LONG_BAD, NO_STATION_EVER, (x, v) -> x.pair(v, v, 0));
        refusedOn(LinkChances::new, "pair of itself", LONG_BAD, numbers(4, 5, 6), (x, v) -> x.pair(v, v, 0));
    }

    static void promise14_noSuchSideIsBad() {
        refused("pair", LONG_BAD, NO_SIDES, (x, what) -> x.pair(0, 1, what));
        refused("pair of one", LONG_BAD, NO_SIDES, (x, what) -> x.pair(1, 1, what));
        refused("pair, all wrong", LONG_BAD, numbers(LEAST, -1, 7, MOST), (x, v) -> x.pair(v, v, v));
    }

    static void promise14_oneStationIsOneByOne() {
        for (int n = 2; n <= 7; n++) {
            LinkChances x = new LinkChances();
            x.stations(n);
            for (int v = 0; v < n; v++) fraction("no links", x.pair(v, v, 0), x.pair(v, v, 1), 1, 1);
            for (int k = 0; k < 10; k++) x.link(0, 1, 0, 9);
            for (int v = 0; v < n; v++) fraction("ten links down", x.pair(v, v, 0), x.pair(v, v, 1), 1, 1);
        }
    }

    static void promise14_noLinksIsZeroByOne() {
        LinkChances x = new LinkChances();
        x.stations(7);
        for (int a = 0; a < 7; a++) {
            for (int b = 0; b < 7; b++) fraction("pair", x.pair(a, b, 0), x.pair(a, b, 1), a == b ? 1 : 0, 1);
        }
    }

    static void promise14_theFirstAndTheLastStationEitherWay() {
        LinkChances x = row(6, 1, 9);
        fraction("pair(0, 6)", x.pair(0, 6, 0), x.pair(0, 6, 1), 1, 531441);
        fraction("pair(6, 0)", x.pair(6, 0, 0), x.pair(6, 0, 1), 1, 531441);
        fraction("pair(5, 6)", x.pair(5, 6, 0), x.pair(5, 6, 1), 1, 9);
        LinkChances y = beside(10, 1, 9);
        fraction("numbers above an int", y.pair(1, 0, 0), y.pair(1, 0, 1), 2413042577L, 3486784401L);
    }

    static void promise14_whateverSourceAndGoalsAre() {
        LinkChances x = Check.net(7, Check.l(0, 1, 2, 4));
        for (int s = 0; s < 7; s++) {
            x.source(s);
            x.goals(127 - s);
            fraction("pair(0, 1)", x.pair(0, 1, 0), x.pair(0, 1, 1), 1, 2);
            fraction("pair(5, 6)", x.pair(5, 6, 0), x.pair(5, 6, 1), 0, 1);
        }
    }

    static void promise14_seenLinks() {
        LinkChances x = beside(1, 1, 2);
        x.see(0, 1);
        fraction("SEEN UP", x.pair(0, 1, 0), x.pair(0, 1, 1), 1, 1);
        x.see(0, 2);
        fraction("SEEN DOWN", x.pair(0, 1, 0), x.pair(0, 1, 1), 0, 1);
    }

    static void promise14_changesNothing() {
        leavesNothing(Edges::busyDesk, "pair", x -> x.pair(3, 4, 0));
        leavesNothing(Edges::fullDesk, "pair", x -> x.pair(0, 3, 1));
    }

    // ---- promise 15: rule

    static void promise15_belowZeroAndAboveOneIsBad() {
        refused("rule", LONG_BAD, NO_SIDES, LinkChances::rule);
    }

    static void promise15_itsOwnChanceIsOne() {
        for (int n = 2; n <= 7; n++) {
            LinkChances x = new LinkChances();
            x.stations(n);
            fraction("no links", x.rule(0), x.rule(1), 1, 1);
            for (int k = 0; k < 10; k++) x.link(0, 1, 0, 9);
            fraction("ten links down", x.rule(0), x.rule(1), 1, 1);
            x.source(n - 1);
            fraction("from the last", x.rule(0), x.rule(1), 1, 1);
        }
    }

    static void promise15_allStationsForSure() {
        for (int links = 1; links <= 6; links++) {
            LinkChances x = row(links, 9, 9);
            fraction("a row of " + links, x.rule(0), x.rule(1), links + 1, 1);
            x.source(links);
            fraction("from its end", x.rule(0), x.rule(1), links + 1, 1);
        }
        LinkChances seen = row(6, 0, 1);
        for (int k = 0; k < 6; k++) seen.see(k, 1);
        fraction("all SEEN UP", seen.rule(0), seen.rule(1), 7, 1);
    }

    static void promise15_numbersAboveTheGreatestInt() {
        LinkChances x = beside(10, 1, 9), y = beside(10, 8, 9);
        fraction("ten of 1 by 9", x.rule(0), x.rule(1), 5899826978L, 3486784401L);
        fraction("ten of 8 by 9", y.rule(0), y.rule(1), 6973568801L, 3486784401L);
    }

    static void promise15_inLowestTermsAboveOne() {
        LinkChances x = Check.net(3, Check.l(0, 1, 2, 4), Check.l(0, 2, 3, 6));
        fraction("two halves and one", x.rule(0), x.rule(1), 2, 1);
        fraction("ten links", tenLinks().rule(0), tenLinks().rule(1), 2341849, 367416);
        LinkChances y = row(6, 1, 9);
        fraction("a row of six", y.rule(0), y.rule(1), 597871, 531441);
    }

    static void promise15_whateverTheGoalsAre() {
        LinkChances x = fiveWithEach(0);
        for (int bits = 0; bits < 32; bits++) {
            x.goals(bits);
            fraction("five with each", x.rule(0), x.rule(1), 565, 128);
        }
    }

    static void promise15_changesNothing() {
        leavesNothing(Edges::busyDesk, "rule", x -> x.rule(0));
        leavesNothing(Edges::fullDesk, "rule", x -> x.rule(1));
    }

    // ---- promise 16: sets

    static void promise16_belowZeroAndAboveTheLinksIsBad() {
        refused("sets", BAD, numbers(LEAST, LEAST + 1, -2, -1, 11, 12, MOST - 1, MOST), LinkChances::sets);
        refusedOn(LinkChances::new, "sets", BAD, numbers(1, 2, 10), LinkChances::sets);
        refusedOn(Edges::busyDesk, "sets", BAD, numbers(7, 8, 10), LinkChances::sets);
    }

    static void promise16_noLinks() {
        LinkChances x = new LinkChances();
        due("nothing to reach", x.sets(0), 1);
        x.goals(1);
        due("the source", x.sets(0), 1);
        x.goals(2);
        due("a goal", x.sets(0), 0);
    }

    private static void sets(String of, LinkChances x, int... due) {
        for (int k = 0; k < due.length; k++) due("sets(" + k + ") of " + of, x.sets(k), due[k]);
        due("sets(" + due.length + ") of " + of, x.sets(due.length), BAD);
    }

    static void promise16_asManyAsThereAreLinks() {
        sets("one", beside(1, 1, 2), 0, 1);
        sets("ten beside each other", beside(10, 1, 2), 0, 10, 45, 120, 210, 252, 210, 120, 45, 10, 1);
        sets("six in a row", row(6, 1, 2), 0, 0, 0, 0, 0, 0, 1);
        sets("five with each, all", fiveWithEach(31), 0, 0, 0, 0, 125, 222, 205, 120, 45, 10, 1);
    }

    static void promise16_nothingToReachCountsAll() {
        sets("ten", fiveWithEach(0), 1, 10, 45, 120, 210, 252, 210, 120, 45, 10, 1);
        sets("the source a goal", fourWithEach(1), 1, 6, 15, 20, 15, 6, 1);
    }

    static void promise16_neverReachedCountsNone() {
        sets("a goal apart", halves(5, 16, 0, 1, 1, 2, 2, 0), 0, 0, 0, 0);
    }

    static void promise16_whateverChancesAndSeenAre() {
        LinkChances x = beside(10, 0, 9);
        x.see(0, 2);
        x.see(9, 1);
        x.chance(5, 9, 9);
        sets("ten beside each other", x, 0, 10, 45, 120, 210, 252, 210, 120, 45, 10, 1);
    }

    static void promise16_changesNothing() {
        leavesNothing(Edges::busyDesk, "sets", x -> x.sets(6));
        leavesNothing(Edges::fullDesk, "sets", x -> x.sets(10));
    }

    // ---- promise 17: like

    private static void like(String of, LinkChances x, int a, int b, long above, long below) {
        fraction("like(" + a + ", " + b + ") of " + of, x.like(a, b, 0), x.like(a, b, 1), above, below);
    }

    static void promise17_belowTheLeastBIsBad() {
        refused("like 0 by", LONG_BAD, numbers(LEAST, LEAST + 1, -2, -1, 0), (x, b) -> x.like(0, b, 0));
        refused("like b by", LONG_BAD, numbers(LEAST, LEAST + 1, -2, -1, 0), (x, b) -> x.like(b, b, 1));
    }

    static void promise17_aboveTheGreatestBIsBad() {
        refused("like 1 by", LONG_BAD, numbers(100, 101, 1000, MOST - 1, MOST), (x, b) -> x.like(1, b, 0));
        refused("like b by", LONG_BAD, numbers(100, 101, MOST), (x, b) -> x.like(b, b, 0));
    }

    static void promise17_aBelowZeroIsBad() {
        refused("like by 2", LONG_BAD, numbers(LEAST, LEAST + 1, -2, -1), (x, a) -> x.like(a, 2, 0));
        refused("like by 99", LONG_BAD, numbers(LEAST, -1), (x, a) -> x.like(a, 99, 1));
    }

    static void promise17_aAboveBIsBad() {
        refused("like by 1", LONG_BAD, numbers(2, 3, 99, MOST - 1, MOST), (x, a) -> x.like(a, 1, 0));
        refused("like by 99", LONG_BAD, numbers(100, 101, MOST), (x, a) -> x.like(a, 99, 0));
        refused("like by 50", LONG_BAD, numbers(51, 52, 99, 100), (x, a) -> x.like(a, 50, 1));
    }

    static void promise17_noSuchSideIsBad() {
        refused("like", LONG_BAD, NO_SIDES, (x, what) -> x.like(1, 2, what));
        refused("like, all wrong", LONG_BAD, numbers(LEAST, -1, 100, MOST), (x, v) -> x.like(v, v, v));
    }

    static void promise17_badComesAheadOfOver() {
        refusedOn(Edges::fullDesk, "like 1 by 99", LONG_BAD, NO_SIDES, (x, what) -> x.like(1, 99, what));
        refusedOn(Edges::fullDesk, "like 100 by 99", LONG_BAD, x -> x.like(100, 99, 0));
        refusedOn(Edges::fullDesk, "like -1 by 99", LONG_BAD, x -> x.like(-1, 99, 1));
        refusedOn(Edges::fullDesk, "like 1 by 100", LONG_BAD, x -> x.like(1, 100, 0));
    }

    static void promise17_noLinks() {
        for (int b : new int[] {1, 2, 98, 99}) {
            for (int a : new int[] {0, 1, b - 1, b}) {
                LinkChances x = new LinkChances();
                like("nothing", x, a, b, 1, 1);
                x.goals(2);
                like("a goal and no links", x, a, b, 0, 1);
            }
        }
    }

    static void promise17_oneLink() {
        for (int b = 1; b <= 99; b++) {
            LinkChances x = beside(1, 1, 2);
            for (int a : new int[] {0, b / 2, b - 1, b}) like("one link", x, a, b, a, b);
        }
    }

    static void promise17_notInLowestTerms() {
        like("two beside each other", beside(2, 1, 2), 2, 4, 12, 16);
        like("two beside each other", beside(2, 1, 2), 99, 99, 9801, 9801);
        like("two beside each other", beside(2, 1, 2), 0, 99, 0, 9801);
    }

    static void promise17_aZeroAndAEqualToB() {
        LinkChances x = fiveWithEach(0);
        like("nothing to reach, a 0", x, 0, 2, 1024, 1024);
        like("nothing to reach, a as b", x, 2, 2, 1024, 1024);
        x.goals(31);
        like("all to be reached, a 0", x, 0, 2, 0, 1024);
        like("all to be reached, a as b", x, 2, 2, 1024, 1024);
    }

    /** Beside each other only the set of none does not reach: b to the links less (b less a) to the links. */
    private static void likeBeside(int links, int a, int b) {
        BigInteger whole = BigInteger.valueOf(b).pow(links), none = BigInteger.valueOf(b - a).pow(links);
        boolean over = whole.bitLength() > 63;
        LinkChances x = beside(links, 1, 2);
        long above = over ? LONG_OVER : whole.subtract(none).longValueExact();
        like(links + " links", x, a, b, above, over ? LONG_OVER : whole.longValueExact());
    }

    static void promise17_everyBOfNineAndTenLinks() {
        for (int b = 1; b <= 99; b++) {
            for (int a : new int[] {0, 1, b / 2, b - 1, b}) {
                likeBeside(9, a, b);
                likeBeside(10, a, b);
            }
        }
    }

    static void promise17_theGreatestNumbersThatAreNotOver() {
        LinkChances x = beside(10, 1, 2);
        like("ten", x, 78, 78, 8335775831236199424L, 8335775831236199424L);
        like("ten", x, 77, 78, 8335775831236199423L, 8335775831236199424L);
        like("ten", x, 0, 78, 0, 8335775831236199424L);
        x.goals(0);
        for (int a = 0; a <= 78; a++) like("ten, nothing to reach", x, a, 78, 8335775831236199424L, 8335775831236199424L);
        x.goals(4);
        like("ten, never reached", x, 39, 78, 0, 8335775831236199424L);
        LinkChances nine = beside(9, 1, 2);
        like("nine", nine, 99, 99, 913517247483640899L, 913517247483640899L);
        like("nine", nine, 98, 99, 913517247483640898L, 913517247483640899L);
        like("nine", nine, 0, 99, 0, 913517247483640899L);
    }

    static void promise17_tenLinksFrom79OnAreOver() {
        for (int b : new int[] {79, 80, 98, 99}) {
            for (int a : new int[] {0, 1, 39, 40, b - 1, b}) {
                refusedOn(Edges::fullDesk, "like(" + a + ", " + b + ", 0)", LONG_OVER, x -> x.like(a, b, 0));
                refusedOn(Edges::fullDesk, "like(" + a + ", " + b + ", 1)", LONG_OVER, x -> x.like(a, b, 1));
            }
        }
    }

    static void promise17_overWhateverIsReached() {
        LinkChances x = beside(10, 1, 2);
        x.goals(4);
        like("never reached", x, 40, 79, LONG_OVER, LONG_OVER);
        x.goals(0);
        like("always reached", x, 40, 79, LONG_OVER, LONG_OVER);
        x.back();
        like("nine of them, always reached", x, 40, 79, 119851595982618319L, 119851595982618319L);
    }

    static void promise17_whateverChancesAndSeenAre() {
        LinkChances x = Check.bridge();
        for (int k = 0; k < 5; k++) {
            x.chance(k, k % 2, 1);
            x.see(k, k % 3);
        }
        like("the bridge", x, 1, 2, 16, 32);
        like("the bridge", x, 1, 3, 59, 243);
    }

    static void promise17_changesNothing() {
        leavesNothing(Edges::busyDesk, "like", x -> x.like(99, 99, 0));
        leavesNothing(Edges::fullDesk, "like", x -> x.like(78, 78, 1));
    }

    // ---- promise 18: least

    private static void least(String of, LinkChances x, int cut, int way) {
        due("CUT of " + of, x.least(0), cut);
        due("WAY of " + of, x.least(1), way);
    }

    static void promise18_belowZeroAndAboveOneIsBad() {
        refused("least", BAD, NO_SIDES, LinkChances::least);
    }

    static void promise18_oneStationAloneIsWanted() {
        least("no links", new LinkChances(), NONE, 0);
        least("ten links", fiveWithEach(0), NONE, 0);
        least("the source a goal", fourWithEach(1), NONE, 0);
        LinkChances x = Check.bridge();
        x.source(3);
        least("the goal the source", x, NONE, 0);
    }

    static void promise18_allUpDoNotReach() {
        LinkChances x = new LinkChances();
        x.goals(2);
        least("no links", x, 0, NONE);
        least("a goal apart", halves(5, 16, 0, 1, 1, 2, 2, 0), 0, NONE);
        least("one of two goals apart", halves(5, 18, 0, 1, 1, 2, 2, 0), 0, NONE);
        least("the source apart", halves(5, 16, 1, 2, 2, 4, 4, 1), 0, NONE);
    }

    static void promise18_leastAndGreatestNumbers() {
        least("one link", beside(1, 1, 2), 1, 1);
        for (int links = 1; links <= 10; links++) least(links + " beside each other", beside(links, 1, 2), links, 1);
        for (int links = 1; links <= 6; links++) least(links + " in a row", row(links, 1, 2), 1, links);
        least("five with each, all", fiveWithEach(31), 4, 4);
        least("four with each, to the last", fourWithEach(8), 3, 1);
        LinkChances x = tenLinks();
        x.goals(127);
        least("ten links, all seven", x, 2, 6);
        x.goals(64);
        x.source(3);
        least("ten links, 3 to 6", x, 2, 2);
    }

    static void promise18_whateverChancesAndSeenAre() {
        LinkChances x = Check.bridge();
        for (int k = 0; k < 5; k++) {
            x.chance(k, 0, 1);
            x.see(k, 2);
        }
        least("the bridge, all down", x, 2, 2);
        for (int k = 0; k < 5; k++) x.see(k, 1);
        least("the bridge, all up", x, 2, 2);
    }

    static void promise18_changesNothing() {
        leavesNothing(Edges::busyDesk, "least", x -> x.least(0));
        leavesNothing(Edges::fullDesk, "least", x -> x.least(1));
    }
}
