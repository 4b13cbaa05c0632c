import java.math.BigInteger;
import java.util.ArrayList;
import java.util.List;

/** Boundary cases of promises 33 and 34. */
public final class EdgesCountTest extends Edges {
    public static void main(String[] args) {
        run(EdgesCountTest.class, 33, 34);
    }

    // ---- promise 33: count

    static void promise33_belowZeroAndAboveEightIsBad() {
        refused("count", BAD, numbers(LEAST, LEAST + 1, -2, -1, 9, 10, MOST - 1, MOST), LinkChances::count);
    }

    private static void counts(String of, LinkChances x, int... due) {
        for (int what = 0; what < due.length; what++) due("count(" + what + ") of " + of, x.count(what), due[what]);
    }

    static void promise33_leastOfEach() {
        LinkChances x = Check.net(2);
        x.goals(2);
        counts("two stations", x, 2, 0, 0, 2, 2, 0, 0, 0, 0);
        x.goals(0);
        counts("two stations, no goals", x, 2, 0, 0, 0, 1, 0, 1, 0, 0);
        counts("a new object", new LinkChances(), 4, 0, 0, 0, 1, 0, 1, 0, 0);
    }

    static void promise33_greatestOfEach() {
        LinkChances x = fullDesk();
        x.see(0, 0);
        x.see(9, 0);
        counts("a full desk", x, 7, 10, 6, 127, 7, 10, 1, 60, 3);
    }

    static void promise33_aBusyDesk() {
        counts("a busy desk", busyDesk(), 5, 6, 1, 20, 3, 4, 1, 13, 2);
    }

    static void promise33_theSourceIsWantedOnce() {
        LinkChances x = Check.net(7);
        for (int bits = 0; bits < 128; bits++) {
            x.goals(bits);
            due("WANTED of " + bits, x.count(4), Integer.bitCount(bits | 1));
        }
        x.source(6);
        x.goals(64);
        due("the last station", x.count(4), 1);
        x.goals(63);
        due("all others", x.count(4), 7);
    }

    static void promise33_linksNotSeen() {
        LinkChances x = tenLinks();
        for (int k = 0; k < 10; k++) {
            due("not SEEN", x.count(5), 10 - k);
            x.see(k, 1 + k % 2);
        }
        due("all SEEN", x.count(5), 0);
        x.back();
        due("one gone", x.count(5), 0);
        x.link(0, 1, 1, 2);
        due("one new", x.count(5), 1);
    }

    static void promise33_reachedWhateverTheChances() {
        LinkChances x = row(6, 0, 9);
        due("all never up", x.count(6), 1);
        for (int k = 0; k < 6; k++) {
            x.see(k, 2);
            due("one SEEN DOWN", x.count(6), 0);
            x.see(k, 1);
            due("it SEEN UP", x.count(6), 1);
            x.see(k, 0);
            due("it not SEEN", x.count(6), 1);
            x.chance(k, 9, 9);
            due("it always up", x.count(6), 1);
        }
    }

    static void promise33_reachedWithoutLinks() {
        LinkChances x = new LinkChances();
        due("nothing to reach", x.count(6), 1);
        x.goals(1);
        due("the source", x.count(6), 1);
        x.goals(2);
        due("a goal", x.count(6), 0);
        x.source(1);
        due("it the source", x.count(6), 1);
    }

    static void promise33_allSeenDown() {
        LinkChances x = beside(10, 9, 9);
        for (int k = 0; k < 10; k++) {
            due("some are not SEEN DOWN", x.count(6), 1);
            x.see(k, 2);
        }
        due("all are SEEN DOWN", x.count(6), 0);
        x.goals(0);
        due("nothing to reach", x.count(6), 1);
    }

    static void promise33_eachFinding() {
        LinkChances x = new LinkChances();
        due("none yet", x.count(8), 0);
        x.sheet(0, -1);
        due("SIZE", x.count(8), 3);
        x.lose(0);
        due("NULL", x.count(8), 1);
        x.sheet(0, 0);
        due("a right call leaves it", x.count(8), 1);
        x.get(0, 0);
        due("INDEX", x.count(8), 2);
        x.sheet(3, -1);
        x.sheet(0, 41);
        x.get(3, 0);
        x.count(9);
        x.reach(2);
        x.back();
        due("other refusals leave it", x.count(8), 2);
        x.stations(7);
        x.wipe();
        x.obey();
        due("all else leaves it", x.count(8), 2);
        x.sheet(0, LEAST);
        due("SIZE", x.count(8), 3);
    }

    static void promise33_theFindingOfEachCall() {
        Call[] nulls = {x -> x.lose(2), x -> x.lay(2, 0, 0), x -> x.get(2, 0), x -> x.copy(2, 0, 0, 0, 0), x -> x.copy(0, 0, 2, 0, 0),
            x -> x.read(2), x -> x.write(2)};
        for (Call call : nulls) {
            LinkChances x = busyDesk();
            call.on(x);
            due("NULL", x.count(8), 1);
        }
        Call[] indexes = {x -> x.lay(0, 12, 0), x -> x.get(0, 12), x -> x.copy(0, 13, 0, 0, 0), x -> x.copy(0, 0, 0, 0, 13)};
        for (Call call : indexes) {
            LinkChances x = busyDesk();
            x.lose(2);
            call.on(x);
            due("INDEX", x.count(8), 2);
        }
    }

    static void promise33_changesNothing() {
        for (int what = 0; what <= 8; what++) {
            int asked = what;
            leavesNothing(Edges::busyDesk, "count(" + what + ")", x -> x.count(asked));
            leavesNothing(Edges::fullDesk, "count(" + what + ")", x -> x.count(asked));
        }
    }

    // ---- promise 34: digest

    /** What the other calls answer, in the order told. */
    private static List<Long> parts(LinkChances x) {
        List<Long> all = new ArrayList<>();
        int n = x.count(0), links = x.count(1);
        for (int what = 0; what <= 7; what++) all.add((long) x.count(what));
        for (int k = 0; k < links; k++) {
            for (int what = 0; what <= 4; what++) all.add((long) x.info(k, what));
            all.add((long) x.wide(k));
            for (int what = 0; what <= 1; what++) all.add(x.worth(k, what));
        }
        for (int what = 0; what <= 1; what++) all.add(x.reach(what));
        for (int what = 0; what <= 4; what++) all.add(x.joined(what));
        all.add((long) x.widest());
        for (int what = 0; what <= 1; what++) all.add(x.rule(what));
        for (int k = 0; k <= links; k++) all.add((long) x.sets(k));
        all.add(x.like(1, 2, 0));
        all.add(x.like(1, 2, 1));
        all.add(x.like(9, 10, 0));
        for (int what = 0; what <= 1; what++) all.add((long) x.least(what));
        all.add((long) x.worthiest());
        for (int a = 0; a < n; a++) {
            for (int b = a + 1; b < n; b++) {
                for (int what = 0; what <= 1; what++) all.add(x.pair(a, b, what));
            }
        }
        all.add((long) x.wrong());
        return all;
    }

    /** Without a bound, and cut to a long at the end alone. */
    private static long mixed(List<Long> all) {
        BigInteger h = BigInteger.valueOf(17);
        for (long next : all) h = h.multiply(BigInteger.valueOf(31)).add(BigInteger.valueOf(next));
        return h.longValue();
    }

    private static long mixed(long... all) {
        List<Long> list = new ArrayList<>();
        for (long next : all) list.add(next);
        return mixed(list);
    }

    private static void digest(String of, Maker desk) {
        LinkChances x = desk.make();
        due("digest() of " + of, x.digest(), mixed(parts(desk.make())));
        due("digest() again", x.digest(), mixed(parts(desk.make())));
    }

    static void promise34_aNewObject() {
        due("digest()", new LinkChances().digest(), mixed(4, 0, 0, 0, 1, 0, 1, 0, 1, 1, 1, 1, 1, 1, 0, 0, 1, 1, 1, 1, 1, 1, -1, 0, -1,
            0, 1, 0, 1, 0, 1, 0, 1, 0, 1, 0, 1, 0));
    }

    static void promise34_twoStationsAndAGoal() {
        LinkChances x = Check.net(2);
        x.goals(2);
        due("digest()", x.digest(), mixed(2, 0, 0, 2, 2, 0, 0, 0, 0, 1, 0, 1, 1, 1, 0, 0, 1, 1, 0, 0, 1, 0, 0, -1, -1, 0, 1, 0));
    }

    static void promise34_oneLink() {
        LinkChances x = Check.net(2, Check.l(1, 0, 2, 4));
        x.goals(2);
        x.type('x');
        x.obey();
        due("digest()", x.digest(), mixed(2, 1, 0, 2, 2, 1, 1, 1, 0, 1, 2, 4, 0, 0, 1, 1, 1, 2, 1, 2, 3, 2, 0, 0, 3, 2, 0, 1, 1, 2, 9,
            1, 1, 0, 1, 2, 1));
    }

    static void promise34_emptyBusyAndFull() {
        digest("a new desk", LinkChances::new);
        digest("a busy desk", Edges::busyDesk);
        digest("a full desk", Edges::fullDesk);
        digest("the bridge", Check::bridge);
        for (int n = 2; n <= 7; n++) {
            int stations = n;
            digest(n + " stations without links", () -> Check.net(stations));
        }
    }

    static void promise34_oneToTenLinks() {
        for (int links = 1; links <= 10; links++) {
            int made = links;
            digest(links + " beside each other", () -> beside(made, 8, 9));
        }
        for (int links = 1; links <= 6; links++) {
            int made = links;
            digest(links + " in a row", () -> row(made, 8, 9));
        }
    }

    static void promise34_asToldUnderSharedTests() {
        LinkChances x = new LinkChances();
        x.stations(7);
        due("seven stations", x.digest(), 5952010849735494261L);
        LinkChances y = Check.net(4, Check.l(0, 1, 1, 2), Check.l(1, 2, 2, 3), Check.l(0, 2, 1, 4));
        y.goals(4);
        y.see(2, 2);
        due("a ring with one SEEN DOWN", y.digest(), 6072242816801434541L);
    }

    static void promise34_itTellsOfEachChange() {
        Call[] changes = {x -> x.stations(5), x -> x.link(0, 1, 1, 2), LinkChances::back, x -> x.chance(0, 2, 4), x -> x.see(0, 2),
            x -> x.source(4), x -> x.goals(4), x -> x.type('a'), LinkChances::wipe, x -> Check.tell(x, "x;12345678901")};
        for (int i = 0; i < changes.length; i++) {
            LinkChances x = busyDesk();
            changes[i].on(x);
            differ("digest() behind change " + i, x.digest(), busyDesk().digest());
        }
    }

    static void promise34_itTellsNothingOfSheetsAndFindings() {
        LinkChances x = busyDesk();
        x.lay(0, 11, 9);
        x.lose(1);
        x.sheet(2, 40);
        x.sheet(0, -1);
        due("digest()", x.digest(), busyDesk().digest());
    }

    static void promise34_changesNothing() {
        leavesNothing(LinkChances::new, "digest()", LinkChances::digest);
        leavesNothing(Edges::busyDesk, "digest()", LinkChances::digest);
        leavesNothing(Edges::fullDesk, "digest()", LinkChances::digest);
    }
}
