/** Boundary cases of promises 1 to 9, and of what stands ahead of them in the document. */
public final class EdgesNetTest extends Edges {
    private static final int[] NO_LINK_EVER = {LEAST, LEAST + 1, -2, -1, 10, 11, MOST - 1, MOST};

    public static void main(String[] args) {
        run(EdgesNetTest.class, 1, 9);
    }

    /** What is refused as p by q: beyond each bound, and by two of them at once. */
    private static final int[][] NO_CHANCES = {{-1, 1}, {-1, 9}, {LEAST, 1}, {LEAST, 9}, {2, 1}, {3, 2}, {10, 9}, {MOST, 9}, {MOST, 1},
        {0, 0}, {1, 0}, {0, -1}, {0, LEAST}, {0, 10}, {1, 10}, {10, 10}, {0, MOST}, {MOST, MOST}, {-1, -1}, {-2, -1}, {LEAST, LEAST},
        {-1, 0}, {-1, 10}, {11, 10}, {1, -1}, {LEAST, MOST}, {MOST, LEAST}};

    // ---- the face

    static void promise01_theConstants() {
        due("NONE", LinkChances.NONE, -1);
        due("BAD", LinkChances.BAD, -2);
        due("NOT", LinkChances.NOT, -3);
        due("FULL", LinkChances.FULL, -4);
        due("OVER", LinkChances.OVER, -5);
    }

    static void promise01_the512thCallIsStillAnswered() {
        LinkChances x = Check.bridge();
        // seven calls made the bridge
        for (int call = 8; call < 512; call++) {
            if (call % 2 == 0) due("call " + call, x.reach(1), 2);
            else due("call " + call, x.lay(0, call, 0), NULL);
        }
        due("call 512", x.digest(), Check.bridge().digest());
    }

    static void promise01_refusalsOfALongAreTheLeastLongAndMore() {
        LinkChances x = beside(10, 1, 2);
        due("BAD", x.reach(2), Long.MIN_VALUE + 2);
        due("OVER", x.like(1, 99, 0), Long.MIN_VALUE + 5);
        due("NULL", x.get(0, 0), Long.MIN_VALUE + 11);
        x.sheet(0, 0);
        due("INDEX", x.get(0, 0), Long.MIN_VALUE + 12);
    }

    // ---- promise 1: a new object

    static void promise01_fourStations() {
        LinkChances x = new LinkChances();
        due("count(0)", x.count(0), 4);
        due("source(4)", x.source(4), BAD);
        due("source(3)", x.source(3), 0);
        due("goals(16)", x.goals(16), BAD);
        due("goals(15)", x.goals(15), 0);
        due("pair(0, 4)", x.pair(0, 4, 0), LONG_BAD);
        due("pair(0, 3)", x.pair(0, 3, 0), 0);
    }

    static void promise01_noLinks() {
        LinkChances x = new LinkChances();
        due("count(1)", x.count(1), 0);
        due("count(5)", x.count(5), 0);
        due("info(0, 0)", x.info(0, 0), BAD);
        due("back()", x.back(), NOT);
        due("chance(0, 1, 2)", x.chance(0, 1, 2), BAD);
        due("see(0, 0)", x.see(0, 0), BAD);
        due("wide(0)", x.wide(0), BAD);
        due("widest()", x.widest(), 0);
        due("sets(0)", x.sets(0), 1);
        due("sets(1)", x.sets(1), BAD);
        due("worth(0, 0)", x.worth(0, 0), LONG_BAD);
        due("worthiest()", x.worthiest(), NONE);
        due("better(0, 1, 1, 0)", x.better(0, 1, 1, 0), LONG_BAD);
        due("link", x.link(0, 1, 1, 1), 0);
    }

    static void promise01_sourceIsZero() {
        due("count(2)", new LinkChances().count(2), 0);
        due("source(1)", new LinkChances().source(1), 0);
    }

    static void promise01_noGoals() {
        due("count(3)", new LinkChances().count(3), 0);
        due("count(4)", new LinkChances().count(4), 1);
        due("goals(1)", new LinkChances().goals(1), 0);
    }

    static void promise01_theOrdersAreEmpty() {
        LinkChances x = new LinkChances();
        due("count(7)", x.count(7), 0);
        due("wrong() ahead of obey()", x.wrong(), 0);
        due("obey()", x.obey(), 0);
        due("wrong()", x.wrong(), 0);
        due("wipe()", x.wipe(), 0);
        due("type('a')", x.type('a'), 1);
    }

    static void promise01_allSheetsAreLost() {
        for (int s = 0; s < 3; s++) {
            due("lose(" + s + ")", new LinkChances().lose(s), NULL);
            due("get(" + s + ", 0)", new LinkChances().get(s, 0), LONG_NULL);
            due("read(" + s + ")", new LinkChances().read(s), NULL);
            due("write(" + s + ")", new LinkChances().write(s), NULL);
        }
    }

    static void promise01_noFindingYet() {
        due("count(8)", new LinkChances().count(8), 0);
    }

    static void promise01_nothingToReachIsReached() {
        LinkChances x = new LinkChances();
        reach("nothing", x, 1, 1);
        int[] joined = {1, 1, 1, 1, 0};
        for (int what = 0; what < 5; what++) due("joined(" + what + ")", x.joined(what), joined[what]);
        fraction("rule", x.rule(0), x.rule(1), 1, 1);
        fraction("like", x.like(1, 2, 0), x.like(1, 2, 1), 1, 1);
        due("least(0)", x.least(0), NONE);
        due("least(1)", x.least(1), 0);
        due("count(6)", x.count(6), 1);
    }

    static void promise01_twoObjectsShareNothing() {
        LinkChances x = fullDesk();
        LinkChances y = new LinkChances();
        due("digest", y.digest(), new LinkChances().digest());
        due("count(8)", y.count(8), 0);
        due("lose(0)", y.lose(0), NULL);
        due("links of the full one", x.count(1), 10);
        due("bytes of the full one", x.wipe(), 60);
        due("sheet of the full one", x.lose(0), 40);
    }

    // ---- promise 2: stations

    static void promise02_leastIsTwo() {
        LinkChances x = new LinkChances();
        due("stations(2)", x.stations(2), 4);
        due("count(0)", x.count(0), 2);
    }

    static void promise02_greatestIsSeven() {
        LinkChances x = new LinkChances();
        due("stations(7)", x.stations(7), 4);
        due("count(0)", x.count(0), 7);
    }

    static void promise02_belowTwoIsBad() {
        refused("stations", BAD, numbers(1, 0, -1, -2, LEAST, LEAST + 1), LinkChances::stations);
    }

    static void promise02_aboveSevenIsBad() {
        refused("stations", BAD, numbers(8, 9, 10, MOST, MOST - 1), LinkChances::stations);
    }

    static void promise02_answersWhatWas() {
        LinkChances x = new LinkChances();
        int was = 4;
        for (int n : new int[] {2, 7, 3, 6, 4, 5, 5, 2, 2, 7, 7}) {
            due("stations(" + n + ")", x.stations(n), was);
            due("count(0)", x.count(0), n);
            was = n;
        }
    }

    private static void asNew(String call, LinkChances x) {
        due(call + ": links", x.count(1), 0);
        due(call + ": source", x.count(2), 0);
        due(call + ": goals", x.count(3), 0);
        due(call + ": wanted", x.count(4), 1);
        due(call + ": not seen", x.count(5), 0);
        due(call + ": back()", x.back(), NOT);
        due(call + ": info(0, 0)", x.info(0, 0), BAD);
        due(call + ": worthiest()", x.worthiest(), NONE);
        reach(call, x, 1, 1);
        fraction(call + ": rule", x.rule(0), x.rule(1), 1, 1);
        due(call + ": the next link", x.link(1, 0, 1, 2), 0);
        due(call + ": it is not seen", x.info(0, 4), 0);
    }

    static void promise02_noLinksNoGoalsSourceZeroThen() {
        for (int n = 2; n <= 7; n++) {
            LinkChances x = fullDesk();
            x.stations(n);
            asNew("stations(" + n + ")", x);
        }
    }

    static void promise02_theSameNumberClearsToo() {
        LinkChances x = fullDesk();
        due("stations(7)", x.stations(7), 7);
        asNew("stations(7)", x);
    }

    static void promise02_digestThenIsThatOfANewNet() {
        LinkChances x = tenLinks(), y = new LinkChances();
        x.goals(64);
        x.source(3);
        x.see(0, 1);
        x.digest();
        x.stations(4);
        due("digest", x.digest(), y.digest());
        x.link(2, 3, 1, 3);
        y.link(2, 3, 1, 3);
        x.goals(8);
        y.goals(8);
        due("digest with a link", x.digest(), y.digest());
    }

    static void promise02_ordersSheetsAndFindingStay() {
        LinkChances x = busyDesk();
        due("stations(2)", x.stations(2), 5);
        due("bytes", x.count(7), 13);
        due("wrong()", x.wrong(), 3);
        due("finding", x.count(8), 2);
        due("get(0, 7)", x.get(0, 7), 9);
        due("lose(0)", x.lose(0), 12);
        due("lose(1)", x.lose(1), 0);
        due("lose(2)", x.lose(2), NULL);
    }

    static void promise02_roomForTenLinksAgain() {
        LinkChances x = fullDesk();
        x.stations(2);
        for (int k = 0; k < 10; k++) due("link " + k, x.link(0, 1, 1, 2), k);
        due("one more", x.link(0, 1, 1, 2), FULL);
    }

    static void promise02_whatOldLinksJoinedIsForgotten() {
        LinkChances x = beside(10, 1, 1);
        x.stations(4);
        for (int k = 0; k < 10; k++) x.link(2, 3, 1, 1);
        x.goals(2);
        reach("a station without a link", x, 0, 1);
        due("sets(10)", x.sets(10), 0);
        fraction("pair(0, 1)", x.pair(0, 1, 0), x.pair(0, 1, 1), 0, 1);
    }

    static void promise02_stationsFromNOnAreNone() {
        for (int n = 2; n <= 7; n++) {
            LinkChances x = new LinkChances();
            x.stations(7);
            x.stations(n);
            due("source", x.source(n), BAD);
            due("goals", x.goals(1 << n), BAD);
            due("link to it", x.link(0, n, 1, 1), BAD);
            due("link from it", x.link(n, 0, 1, 1), BAD);
            due("pair with it", x.pair(0, n, 0), LONG_BAD);
            due("pair of it", x.pair(n, n, 0), LONG_BAD);
            due("goal", Check.tell(x, "goal" + n), -100);
            due("wrong()", x.wrong(), 3);
            due("from", Check.tell(x, "from" + n), -100);
            due("wrong()", x.wrong(), 3);
            Check.fill(x, 0, 0, n, 1, 2);
            due("read", x.read(0), 0);
        }
    }

    static void promise02_stationNLessOneIsOne() {
        for (int n = 2; n <= 7; n++) {
            LinkChances x = new LinkChances();
            x.stations(n);
            due("source", x.source(n - 1), 0);
            due("goals", x.goals(1 << (n - 1)), 0);
            due("link to it", x.link(0, n - 1, 1, 1), 0);
            due("link from it", x.link(n - 1, 0, 1, 1), 1);
            due("pair with it", x.pair(0, n - 1, 0), 1);
            due("pair of it", x.pair(n - 1, n - 1, 0), 1);
            due("goal", Check.tell(x, "goal" + (n - 1)), 1);
            due("from", Check.tell(x, "from" + (n - 1)), 1);
            Check.fill(x, 0, 0, n - 1, 1, 2);
            due("read", x.read(0), 1);
        }
    }

    // ---- promise 3: link

    static void promise03_theFirstIsNumberZero() {
        due("link", new LinkChances().link(0, 1, 1, 2), 0);
    }

    static void promise03_theTenthIsNumberNine() {
        LinkChances x = new LinkChances();
        for (int k = 0; k < 10; k++) due("link " + k, x.link(k % 3, 3, 1, 2), k);
        due("count(1)", x.count(1), 10);
        due("greater station of the tenth", x.info(9, 1), 3);
    }

    static void promise03_theEleventhIsFull() {
        refusedOn(Edges::fullDesk, "link", FULL, x -> x.link(0, 1, 1, 2));
        refusedOn(Edges::fullDesk, "link of the last stations", FULL, x -> x.link(6, 5, 9, 9));
        refusedOn(() -> beside(10, 0, 1), "link of sure chance", FULL, x -> x.link(1, 0, 1, 1));
    }

    static void promise03_endsFromZeroToNLessOne() {
        for (int n = 2; n <= 7; n++) {
            LinkChances x = new LinkChances();
            x.stations(n);
            for (int a = -1; a <= n; a++) {
                for (int b = -1; b <= n; b++) {
                    boolean may = a >= 0 && b >= 0 && a < n && b < n && a != b;
                    due("link(" + a + ", " + b + ") of " + n, x.link(a, b, 1, 2), may ? 0 : BAD);
                    if (!may) continue;
                    due("lesser", x.info(0, 0), Math.min(a, b));
                    due("greater", x.info(0, 1), Math.max(a, b));
                    x.back();
                }
            }
        }
    }

    static void promise03_noSuchStationIsBad() {
        refused("link from", BAD, numbers(-1, 7, 8, LEAST, LEAST + 1, MOST, MOST - 1), (x, a) -> x.link(a, 1, 1, 2));
        refused("link to", BAD, numbers(-1, 7, 8, LEAST, LEAST + 1, MOST, MOST - 1), (x, b) -> x.link(1, b, 1, 2));
        refused("link from and to", BAD, numbers(-1, 7, LEAST, MOST), (x, v) -> x.link(v, v, 1, 2));
        refusedOn(Edges::busyDesk, "link", BAD, numbers(5, 6), (x, v) -> x.link(v, 0, 1, 2));
        refusedOn(Edges::busyDesk, "link", BAD, numbers(5, 6), (x, v) -> x.link(0, v, 1, 2));
    }

    static void promise03_aStationWithItselfIsBad() {
        refused("link", BAD, numbers(0, 1, 2, 3), (x, v) -> x.link(v, v, 1, 2));
        refusedOn(Edges::fullDesk, "link", BAD, numbers(4, 5, 6), (x, v) -> x.link(v, v, 1, 2));
    }

    static void promise03_everyChanceIsTaken() {
        for (int q = -1; q <= 11; q++) {
            LinkChances x = new LinkChances();
            for (int p = -1; p <= 11; p++) {
                boolean may = q >= 1 && q <= 9 && p >= 0 && p <= q;
                due("link with " + p + " by " + q, x.link(0, 1, p, q), may ? 0 : BAD);
                due("links", x.count(1), may ? 1 : 0);
                if (!may) continue;
                due("p as it was told", x.info(0, 2), p);
                due("q as it was told", x.info(0, 3), q);
                x.back();
            }
        }
    }

    static void promise03_noChanceIsBad() {
        for (int[] c : NO_CHANCES) refused("link with " + c[0] + " by " + c[1], BAD, x -> x.link(0, 1, c[0], c[1]));
    }

    static void promise03_allWrongAtOnceIsBad() {
        refused("link", BAD, numbers(LEAST, -1, MOST), (x, v) -> x.link(v, v, v, v));
    }

    static void promise03_badComesAheadOfFull() {
        int[][] bad = {{-1, 0, 1, 2}, {7, 0, 1, 2}, {0, -1, 1, 2}, {0, 7, 1, 2}, {3, 3, 1, 2}, {0, 1, -1, 2}, {0, 1, 3, 2}, {0, 1, 0, 0},
            {0, 1, 1, 10}, {LEAST, 0, 1, 2}, {0, MOST, 1, 2}, {0, 1, MOST, 2}, {0, 1, 1, MOST}, {0, 1, LEAST, 9}, {0, 1, 0, LEAST}};
        for (int[] l : bad) refusedOn(Edges::fullDesk, "link", BAD, x -> x.link(l[0], l[1], l[2], l[3]));
    }

    static void promise03_severalBetweenTheSameTwo() {
        LinkChances x = new LinkChances();
        x.stations(2);
        for (int k = 0; k < 10; k++) due("link " + k, x.link(k % 2, 1 - k % 2, k % 9, 9), k);
        for (int k = 0; k < 10; k++) {
            due("lesser of " + k, x.info(k, 0), 0);
            due("greater of " + k, x.info(k, 1), 1);
            due("p of " + k, x.info(k, 2), k % 9);
        }
    }

    static void promise03_aNewLinkIsNotSeen() {
        LinkChances x = tenLinks();
        for (int v = 1; v <= 2; v++) {
            x.see(9, v);
            due("back()", x.back(), 9);
            due("link", x.link(0, 6, 1, 2), 9);
            due("SEEN of it", x.info(9, 4), 0);
        }
    }

    static void promise03_roomAgainBehindBack() {
        LinkChances x = tenLinks();
        due("an eleventh", x.link(0, 1, 1, 2), FULL);
        x.back();
        due("a tenth", x.link(0, 1, 1, 2), 9);
        due("an eleventh", x.link(0, 1, 1, 2), FULL);
    }

    static void promise03_theLinksAheadStay() {
        LinkChances x = Check.bridge();
        x.see(0, 2);
        x.link(0, 3, 9, 9);
        int[][] due = {{0, 1, 1, 2, 2}, {0, 2, 1, 2, 0}, {1, 2, 1, 2, 0}, {1, 3, 1, 2, 0}, {2, 3, 1, 2, 0}, {0, 3, 9, 9, 0}};
        for (int k = 0; k < 6; k++) {
            for (int what = 0; what < 5; what++) due("info(" + k + ", " + what + ")", x.info(k, what), due[k][what]);
        }
        due("goals", x.count(3), 8);
    }

    // ---- promise 4: back

    static void promise04_noLinksIsNot() {
        refusedOn(LinkChances::new, "back()", NOT, LinkChances::back);
        refusedOn(() -> Check.net(7), "back() of seven stations", NOT, LinkChances::back);
    }

    static void promise04_behindTheLastOneIsNot() {
        LinkChances x = new LinkChances();
        x.link(0, 1, 1, 2);
        due("back()", x.back(), 0);
        due("back()", x.back(), NOT);
        due("back()", x.back(), NOT);
        due("links", x.count(1), 0);
    }

    static void promise04_fromTenToNone() {
        LinkChances x = tenLinks();
        for (int left = 9; left >= 0; left--) {
            due("back()", x.back(), left);
            due("links", x.count(1), left);
            due("the last is gone", x.info(left, 0), BAD);
            if (left > 0) due("the one ahead of it stays", x.info(left - 1, 3), tenLinks().info(left - 1, 3));
        }
        due("back()", x.back(), NOT);
    }

    static void promise04_theLastIsGoneFromEveryCall() {
        LinkChances x = Check.bridge();
        x.back();
        due("info", x.info(4, 0), BAD);
        due("chance", x.chance(4, 1, 2), BAD);
        due("see", x.see(4, 1), BAD);
        due("wide", x.wide(4), BAD);
        due("sets", x.sets(5), BAD);
        due("sets of all that are left", x.sets(4), 1);
        due("worth", x.worth(4, 0), LONG_BAD);
        due("better", x.better(4, 1, 1, 0), LONG_BAD);
        due("up4", Check.tell(x, "up4"), -100);
        due("wrong()", x.wrong(), 3);
        reach("the bridge without it", x, 5, 16);
    }

    static void promise04_allElseStays() {
        LinkChances x = busyDesk();
        due("back()", x.back(), 5);
        int[] counts = {5, 5, 1, 20, 3, 3};
        for (int what = 0; what < counts.length; what++) due("count(" + what + ")", x.count(what), counts[what]);
        due("SEEN", x.info(1, 4), 1);
        due("SEEN", x.info(4, 4), 2);
        due("bytes", x.count(7), 13);
        due("finding", x.count(8), 2);
        due("get(0, 7)", x.get(0, 7), 9);
    }

    static void promise04_asIfItHadNeverBeen() {
        for (int links = 9; links >= 0; links--) {
            LinkChances x = tenLinks(), y = Check.net(7);
            x.goals(72);
            y.goals(72);
            x.digest();
            x.better(9, 9, 9, 0);
            for (int k = 0; k < links; k++) y.link(x.info(k, 0), x.info(k, 1), x.info(k, 2), x.info(k, 3));
            for (int k = 9; k >= links; k--) x.back();
            due("digest() with " + links + " left", x.digest(), y.digest());
        }
    }

    static void promise04_askedAnewBehindEachBack() {
        LinkChances x = tenLinks();
        x.goals(64);
        for (int left = 9; left >= 0; left--) {
            LinkChances y = Check.net(7);
            y.goals(64);
            for (int k = 0; k < left; k++) y.link(x.info(k, 0), x.info(k, 1), x.info(k, 2), x.info(k, 3));
            x.back();
            reach("what is left", x, y.reach(0), y.reach(1));
            fraction("pair(0, 3)", x.pair(0, 3, 0), x.pair(0, 3, 1), y.pair(0, 3, 0), y.pair(0, 3, 1));
            fraction("rule", x.rule(0), x.rule(1), y.rule(0), y.rule(1));
            if (left > 0) fraction("worth(0)", x.worth(0, 0), x.worth(0, 1), y.worth(0, 0), y.worth(0, 1));
            due("worthiest()", x.worthiest(), y.worthiest());
            due("sets", x.sets(left), y.sets(left));
            due("widest()", x.widest(), y.widest());
        }
    }

    static void promise04_itsNumberIsUsedAgain() {
        LinkChances x = Check.bridge();
        x.see(4, 2);
        x.back();
        due("link", x.link(0, 3, 1, 9), 4);
        int[] due = {0, 3, 1, 9, 0};
        for (int what = 0; what < 5; what++) due("info(4, " + what + ")", x.info(4, what), due[what]);
        x.see(0, 2);
        x.see(1, 2);
        reach("the new one alone", x, 1, 9);
    }

    // ---- promise 5: chance

    static void promise05_noLinksIsBad() {
        refusedOn(LinkChances::new, "chance", BAD, numbers(0, 1, 9), (x, k) -> x.chance(k, 1, 2));
    }

    static void promise05_noSuchLinkIsBad() {
        refused("chance", BAD, NO_LINK_EVER, (x, k) -> x.chance(k, 1, 2));
        refusedOn(Edges::busyDesk, "chance", BAD, numbers(6, 7, 9), (x, k) -> x.chance(k, 1, 2));
    }

    static void promise05_theFirstAndTheLastLink() {
        LinkChances x = tenLinks();
        due("chance(0, 4, 7)", x.chance(0, 4, 7), 12);
        due("chance(9, 5, 8)", x.chance(9, 5, 8), 29);
        due("p of the first", x.info(0, 2), 4);
        due("q of the first", x.info(0, 3), 7);
        due("p of the last", x.info(9, 2), 5);
        due("q of the last", x.info(9, 3), 8);
        for (int k = 1; k < 9; k++) {
            due("p of another", x.info(k, 2), tenLinks().info(k, 2));
            due("q of another", x.info(k, 3), tenLinks().info(k, 3));
        }
    }

    static void promise05_everyChanceIsTakenAndAnswered() {
        LinkChances x = new LinkChances();
        x.link(0, 1, 0, 1);
        int was = 1;
        for (int q = 1; q <= 9; q++) {
            for (int p = 0; p <= q; p++) {
                due("chance(0, " + p + ", " + q + ")", x.chance(0, p, q), was);
                due("p", x.info(0, 2), p);
                due("q", x.info(0, 3), q);
                was = 10 * p + q;
            }
        }
    }

    static void promise05_leastAndGreatestAnswer() {
        LinkChances x = Check.net(2, Check.l(0, 1, 0, 1), Check.l(0, 1, 9, 9));
        due("of 0 by 1", x.chance(0, 1, 1), 1);
        due("of 9 by 9", x.chance(1, 1, 1), 99);
        due("of 1 by 1", x.chance(1, 2, 4), 11);
        due("of 2 by 4, as it was told", x.chance(1, 2, 4), 24);
    }

    static void promise05_noChanceIsBad() {
        for (int[] c : NO_CHANCES) refusedOn(Edges::busyDesk, "chance " + c[0] + " by " + c[1], BAD, x -> x.chance(0, c[0], c[1]));
        for (int[] c : NO_CHANCES) refusedOn(Edges::fullDesk, "chance " + c[0] + " by " + c[1], BAD, x -> x.chance(9, c[0], c[1]));
    }

    static void promise05_allWrongAtOnceIsBad() {
        refused("chance", BAD, numbers(LEAST, -1, 10, MOST), (x, v) -> x.chance(v, v, v));
    }

    static void promise05_whatIsSeenStays() {
        LinkChances x = beside(1, 1, 2);
        for (int v = 1; v <= 2; v++) {
            x.see(0, v);
            x.chance(0, v, 3);
            due("SEEN", x.info(0, 4), v);
            reach("a SEEN one, whatever its chance", x, 2 - v, 1);
        }
        x.see(0, 0);
        reach("it, not SEEN any more", x, 2, 3);
    }

    static void promise05_neverAndAlwaysUp() {
        LinkChances x = beside(1, 1, 2);
        x.chance(0, 0, 9);
        reach("0 by 9", x, 0, 1);
        x.chance(0, 9, 9);
        reach("9 by 9", x, 1, 1);
        x.chance(0, 0, 1);
        reach("0 by 1", x, 0, 1);
        x.chance(0, 1, 1);
        reach("1 by 1", x, 1, 1);
    }

    // ---- promise 6: see

    static void promise06_noLinksIsBad() {
        refusedOn(LinkChances::new, "see", BAD, numbers(0, 1, 9), (x, k) -> x.see(k, 1));
    }

    static void promise06_noSuchLinkIsBad() {
        refused("see", BAD, NO_LINK_EVER, (x, k) -> x.see(k, 1));
        refused("see", BAD, NO_LINK_EVER, (x, k) -> x.see(k, 0));
        refusedOn(Edges::busyDesk, "see", BAD, numbers(6, 7, 9), (x, k) -> x.see(k, 2));
    }

    static void promise06_belowZeroAndAboveTwoIsBad() {
        refusedOn(Edges::busyDesk, "see", BAD, numbers(LEAST, LEAST + 1, -2, -1, 3, 4, MOST - 1, MOST), (x, v) -> x.see(0, v));
        refusedOn(Edges::fullDesk, "see", BAD, numbers(LEAST, -1, 3, MOST), (x, v) -> x.see(9, v));
    }

    static void promise06_allWrongAtOnceIsBad() {
        refused("see", BAD, numbers(LEAST, -1, 10, MOST), (x, v) -> x.see(v, v));
    }

    static void promise06_eachFromEach() {
        LinkChances x = Check.net(4, Check.l(0, 1, 1, 3), Check.l(0, 1, 1, 3));
        x.see(1, 1);
        int was = 0;
        for (int v : new int[] {0, 0, 1, 1, 2, 2, 0, 2, 1, 0}) {
            due("see(0, " + v + ")", x.see(0, v), was);
            due("SEEN", x.info(0, 4), v);
            due("of the other one", x.info(1, 4), 1);
            due("how many are not", x.count(5), v == 0 ? 1 : 0);
            was = v;
        }
    }

    static void promise06_theFirstAndTheLastLink() {
        LinkChances x = tenLinks();
        due("see(0, 1)", x.see(0, 1), 0);
        due("see(9, 2)", x.see(9, 2), 0);
        for (int k = 0; k < 10; k++) due("SEEN of " + k, x.info(k, 4), k == 0 ? 1 : k == 9 ? 2 : 0);
        due("not SEEN", x.count(5), 8);
    }

    static void promise06_upAndDownAgainstTheChance() {
        LinkChances x = beside(1, 0, 9);
        x.see(0, 1);
        reach("0 by 9 SEEN UP", x, 1, 1);
        due("p stays", x.info(0, 2), 0);
        due("q stays", x.info(0, 3), 9);
        x.see(0, 0);
        reach("0 by 9", x, 0, 1);
        x.chance(0, 9, 9);
        x.see(0, 2);
        reach("9 by 9 SEEN DOWN", x, 0, 1);
        x.see(0, 0);
        reach("9 by 9", x, 1, 1);
    }

    // ---- promise 7: source

    static void promise07_fromZeroToNLessOne() {
        for (int n = 2; n <= 7; n++) {
            LinkChances x = new LinkChances();
            x.stations(n);
            int was = 0;
            for (int s : new int[] {0, n - 1, n - 1, 1, 0}) {
                due("source(" + s + ") of " + n, x.source(s), was);
                due("count(2)", x.count(2), s);
                was = s;
            }
            due("source(" + n + ")", x.source(n), BAD);
            due("source(-1)", x.source(-1), BAD);
        }
    }

    static void promise07_noSuchStationIsBad() {
        refused("source", BAD, numbers(LEAST, LEAST + 1, -2, -1, 7, 8, MOST - 1, MOST), LinkChances::source);
        refusedOn(LinkChances::new, "source", BAD, numbers(4, 5, 6), LinkChances::source);
        refusedOn(Edges::busyDesk, "source", BAD, numbers(5, 6), LinkChances::source);
        refusedOn(() -> Check.net(2), "source", BAD, numbers(2, 3), LinkChances::source);
    }

    static void promise07_aGoalMayBeTheSource() {
        LinkChances x = Check.bridge();
        due("source(3)", x.source(3), 0);
        due("WANTED", x.count(4), 1);
        due("GOALS stay", x.count(3), 8);
        reach("itself", x, 1, 1);
    }

    // ---- promise 8: goals

    static void promise08_noneAndAll() {
        for (int n = 2; n <= 7; n++) {
            LinkChances x = new LinkChances();
            x.stations(n);
            int all = (1 << n) - 1;
            due("goals(all) of " + n, x.goals(all), 0);
            due("count(3)", x.count(3), all);
            due("count(4)", x.count(4), n);
            due("goals(0)", x.goals(0), all);
            due("count(3)", x.count(3), 0);
            due("count(4)", x.count(4), 1);
            due("goals(0) again", x.goals(0), 0);
        }
    }

    static void promise08_eachStationAlone() {
        LinkChances x = new LinkChances();
        x.stations(7);
        int was = 0;
        for (int v = 0; v < 7; v++) {
            due("goals of " + v, x.goals(1 << v), was);
            due("count(3)", x.count(3), 1 << v);
            due("count(4)", x.count(4), v == 0 ? 1 : 2);
            was = 1 << v;
        }
    }

    static void promise08_aBitOfNoStationIsBad() {
        refused("goals", BAD, numbers(128, 129, 255, 256, 1 << 16, 1 << 30, MOST, MOST - 1), LinkChances::goals);
        refusedOn(LinkChances::new, "goals", BAD, numbers(16, 17, 31, 32, 64, 127), LinkChances::goals);
        refusedOn(Edges::busyDesk, "goals", BAD, numbers(32, 33, 63, 64, 127), LinkChances::goals);
        refusedOn(() -> Check.net(2), "goals", BAD, numbers(4, 5, 7, 8), LinkChances::goals);
    }

    static void promise08_belowZeroIsBad() {
        refused("goals", BAD, numbers(-1, -2, -128, LEAST, LEAST + 1), LinkChances::goals);
    }

    static void promise08_theSourceMayBeAGoal() {
        LinkChances x = Check.bridge();
        due("goals(1)", x.goals(1), 8);
        due("WANTED", x.count(4), 1);
        reach("the source", x, 1, 1);
        due("goals(9)", x.goals(9), 1);
        due("WANTED", x.count(4), 2);
        reach("the source and 3", x, 1, 2);
    }

    // ---- promise 9: info

    static void promise09_noLinksIsBad() {
        refusedOn(LinkChances::new, "info", BAD, numbers(0, 1, 2, 3, 4, 9), (x, v) -> x.info(0, v));
    }

    static void promise09_noSuchLinkIsBad() {
        refused("info", BAD, NO_LINK_EVER, (x, k) -> x.info(k, 0));
        refused("info", BAD, NO_LINK_EVER, (x, k) -> x.info(k, 4));
        refusedOn(Edges::busyDesk, "info", BAD, numbers(6, 7, 9), (x, k) -> x.info(k, 0));
    }

    static void promise09_noSuchQuestionIsBad() {
        refusedOn(Edges::busyDesk, "info", BAD, numbers(LEAST, LEAST + 1, -2, -1, 5, 6, MOST - 1, MOST), (x, v) -> x.info(0, v));
        refusedOn(Edges::fullDesk, "info", BAD, numbers(LEAST, -1, 5, MOST), (x, v) -> x.info(9, v));
    }

    static void promise09_allWrongAtOnceIsBad() {
        refused("info", BAD, numbers(LEAST, -1, 10, MOST), (x, v) -> x.info(v, v));
    }

    static void promise09_theFirstAndTheLastLink() {
        LinkChances x = fullDesk();
        int[] first = {0, 1, 1, 2, 1}, last = {2, 5, 2, 9, 2};
        for (int what = 0; what < 5; what++) {
            due("info(0, " + what + ")", x.info(0, what), first[what]);
            due("info(9, " + what + ")", x.info(9, what), last[what]);
        }
    }

    static void promise09_leastAndGreatestOfEach() {
        LinkChances x = Check.net(7, Check.l(1, 0, 0, 1), Check.l(6, 5, 9, 9));
        x.see(1, 2);
        int[] least = {0, 1, 0, 1, 0}, greatest = {5, 6, 9, 9, 2};
        for (int what = 0; what < 5; what++) {
            due("info(0, " + what + ")", x.info(0, what), least[what]);
            due("info(1, " + what + ")", x.info(1, what), greatest[what]);
        }
    }

    static void promise09_changesNothing() {
        for (int what = 0; what < 5; what++) {
            int asked = what;
            leavesNothing(Edges::busyDesk, "info(1, " + what + ")", x -> x.info(1, asked));
        }
    }
}
