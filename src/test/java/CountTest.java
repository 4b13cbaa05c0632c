/** Promises 33 and 34. */
public final class CountTest {
    private static final Check check = new Check("CountTest");

    public static void main(String[] args) {
        count();
        countReaches();
        digest();
        digestChanges();
        check.end();
    }

    private static void counts(LinkChances x, int... due) {
        for (int what = 0; what < due.length; what++) check.due("count(" + what + ")", x.count(what), due[what]);
    }

    // promise 33
    private static void count() {
        LinkChances x = new LinkChances();
        counts(x, 4, 0, 0, 0, 1, 0, 1, 0, 0);
        x.stations(6);
        x.link(0, 5, 1, 2);
        x.link(1, 2, 0, 2);
        x.link(1, 5, 1, 2);
        x.source(2);
        x.goals(5);
        x.see(1, 1);
        x.type('u');
        x.type('p');
        x.lose(0);
        counts(x, 6, 3, 2, 5, 2, 2, 1, 2, 1);
        x.goals(33);
        x.see(0, 2);
        x.see(1, 2);
        x.sheet(0, -1);
        counts(x, 6, 3, 2, 33, 3, 1, 0, 2, 3);
        for (int what : new int[] {-1, 9, 10, Integer.MIN_VALUE, Integer.MAX_VALUE}) check.due("count bad", x.count(what), -2);
        check.due("count bad leaves the finding", x.count(8), 3);
    }

    private static void countReaches() {
        LinkChances x = Check.net(4, Check.l(0, 1, 0, 1), Check.l(1, 2, 0, 5));
        x.goals(4);
        check.due("whatever the chances are", x.count(6), 1);
        x.see(0, 1);
        check.due("with one seen up", x.count(6), 1);
        x.see(1, 2);
        check.due("with one seen down", x.count(6), 0);
        x.goals(2);
        check.due("without the one seen down", x.count(6), 1);
        x.goals(8);
        x.see(1, 0);
        check.due("a station without a link", x.count(6), 0);
        x.goals(0);
        check.due("nothing to reach", x.count(6), 1);
    }

    private static long plainDigest(LinkChances x) {
        long h = 17;
        for (int what = 0; what <= 7; what++) h = 31 * h + x.count(what);
        for (int k = 0; k < x.count(1); k++) {
            for (int what = 0; what <= 4; what++) h = 31 * h + x.info(k, what);
            h = 31 * h + x.wide(k);
            h = 31 * h + x.worth(k, 0);
            h = 31 * h + x.worth(k, 1);
        }
        h = 31 * (31 * h + x.reach(0)) + x.reach(1);
        for (int what = 0; what <= 4; what++) h = 31 * h + x.joined(what);
        h = 31 * h + x.widest();
        h = 31 * (31 * h + x.rule(0)) + x.rule(1);
        for (int k = 0; k <= x.count(1); k++) h = 31 * h + x.sets(k);
        h = 31 * (31 * (31 * h + x.like(1, 2, 0)) + x.like(1, 2, 1)) + x.like(9, 10, 0);
        h = 31 * (31 * h + x.least(0)) + x.least(1);
        h = 31 * h + x.worthiest();
        for (int a = 0; a < x.count(0); a++) {
            for (int b = a + 1; b < x.count(0); b++) h = 31 * (31 * h + x.pair(a, b, 0)) + x.pair(a, b, 1);
        }
        return 31 * h + x.wrong();
    }

    // promise 34
    private static void digest() {
        LinkChances x = new LinkChances();
        check.due("digest of a new object", x.digest(), plainDigest(x));
        x = Check.bridge();
        check.due("digest of the bridge", x.digest(), plainDigest(x));
        Check.tell(x, "up9");
        x.source(1);
        x.see(2, 1);
        x.see(3, 2);
        check.due("digest of the bridge, seen", x.digest(), plainDigest(x));
        x = Check.fullNet();
        check.due("digest of ten", x.digest(), plainDigest(x));
        x = Check.net(7, Check.l(0, 1, 1, 2), Check.l(1, 2, 2, 3), Check.l(2, 3, 3, 4), Check.l(3, 4, 4, 5), Check.l(4, 5, 5, 6),
            Check.l(5, 6, 6, 7), Check.l(6, 0, 7, 8), Check.l(0, 3, 8, 9), Check.l(1, 4, 1, 9), Check.l(2, 5, 2, 9));
        x.goals(72);
        check.due("digest of seven", x.digest(), plainDigest(x));
        // as ../shared/tests tells of the same calls
        LinkChances told = new LinkChances();
        told.stations(7);
        check.due("digest as told", told.digest(), 5952010849735494261L);
    }

    private static void digestChanges() {
        LinkChances x = Check.bridge();
        long before = x.digest();
        x.chance(0, 2, 4);
        check.due("it tells p and q", x.digest() == before ? 1 : 0, 0);
        x.chance(0, 1, 2);
        check.due("it is as it was", x.digest(), before);
        x.sheet(0, 5);
        x.sheet(0, -1);
        check.due("it tells nothing of sheets and findings", x.digest(), before);
        x.type('a');
        check.due("it tells the bytes", x.digest() == before ? 1 : 0, 0);
    }
}
