/**
 * Each call with all numbers on and beside its bounds, in every mixture, asked of the class and of PlainDesk:
 * so each refusal meets each other one. Every mixture has desks of its own.
 */
public final class SweepTest {
    private static final int LEAST = Integer.MIN_VALUE, MOST = Integer.MAX_VALUE;
    private static final int[] PARTS = {LEAST, -1, 0, 1, 2, 9, 10, MOST};
    private static final int[] SIDES = {LEAST, -1, 0, 1, 2, MOST};
    private static final int[] SHEETS = {LEAST, -1, 0, 1, 2, 3, MOST};
    private static final int[] LINKS = {0, 1, 9, 10};
    private static final int[] STATIONS = {4, 3, 7, 2};
    private static final String[] ORDERS = {"up1", "down1", "free1", "goal1", "from1", "all", "none"};

    private static final Check check = new Check("SweepTest");

    private static LinkChances x;
    private static PlainDesk y;
    private static String call;

    public static void main(String[] args) {
        for (int kind = 0; kind < LINKS.length; kind++) {
            ofStations(kind);
            ofLinks(kind);
            ofChances(kind);
            ofPairs(kind);
            ofLike(kind);
            ofBetter(kind);
        }
        ofSheets();
        ofItems();
        ofCopies();
        ofReading();
        ofOrders();
        check.end();
    }

    private static void due(String asked, long got, long want) {
        check.due(call, asked, got, want);
    }

    private static void make(int kind) {
        x = new LinkChances();
        y = new PlainDesk();
        due("stations", x.stations(STATIONS[kind]), y.stations(STATIONS[kind]));
        for (int k = 0; k < LINKS[kind]; k++) {
            int a = k % STATIONS[kind], b = (k + 1) % STATIONS[kind], p = k % 4, q = 3 + k % 5;
            due("link", x.link(a, b, p, q), y.link(a, b, p, q));
        }
        due("goals", x.goals(2), y.goals(2));
    }

    private static int[] around(int last) {
        return new int[] {LEAST, -1, 0, 1, last - 1, last, last + 1, 10, MOST};
    }

    private static void sameNet() {
        for (int what = 0; what < 9; what++) due("count", x.count(what), y.count(what));
        for (int k = 0; k < 10; k++) {
            for (int what = 0; what < 5; what++) due("info", x.info(k, what), y.info(k, what));
        }
    }

    // ---- the net

    private static void ofStations(int kind) {
        for (int v : new int[] {LEAST, -1, 0, 1, 2, 3, 4, 5, 6, 7, 8, 9, 15, 16, 31, 32, 63, 64, 127, 128, 129, MOST}) {
            make(kind);
            call = "source(" + v + ")";
            due("answer", x.source(v), y.source(v));
            call = "goals(" + v + ")";
            due("answer", x.goals(v), y.goals(v));
            sameNet();
            call = "sets(" + v + ")";
            due("answer", x.sets(v), y.sets(v));
            call = "wide(" + v + ")";
            due("answer", x.wide(v), y.wide(v));
            for (int what : SIDES) {
                call = "reach, joined, rule, least (" + what + ")";
                due("reach", x.reach(what), y.reach(what));
                due("joined", x.joined(what + 3), y.joined(what + 3));
                due("rule", x.rule(what), y.rule(what));
                due("least", x.least(what), y.least(what));
            }
            call = "stations(" + v + ")";
            due("answer", x.stations(v), y.stations(v));
            sameNet();
        }
    }

    private static void ofLinks(int kind) {
        for (int a : around(STATIONS[kind])) {
            for (int b : around(STATIONS[kind])) {
                for (int p : PARTS) {
                    for (int q : PARTS) {
                        make(kind);
                        call = "link(" + a + ", " + b + ", " + p + ", " + q + ") behind " + LINKS[kind];
                        int want = y.link(a, b, p, q);
                        due("answer", x.link(a, b, p, q), want);
                        due("links", x.count(1), y.count(1));
                        for (int what = 0; what < 5; what++) due("info", x.info(want, what), y.info(want, what));
                    }
                }
            }
        }
    }

    private static void ofChances(int kind) {
        for (int k : around(LINKS[kind])) {
            for (int p : PARTS) {
                for (int q : PARTS) {
                    make(kind);
                    call = "chance(" + k + ", " + p + ", " + q + ") of " + LINKS[kind];
                    due("answer", x.chance(k, p, q), y.chance(k, p, q));
                    call = "see(" + k + ", " + p + ") of " + LINKS[kind];
                    due("answer", x.see(k, p), y.see(k, p));
                    call = "info(" + k + ", " + q + ") of " + LINKS[kind];
                    due("answer", x.info(k, q), y.info(k, q));
                    sameNet();
                }
            }
            for (int what : SIDES) {
                call = "worth(" + k + ", " + what + ") of " + LINKS[kind];
                due("answer", x.worth(k, what), y.worth(k, what));
            }
        }
    }

    private static void ofPairs(int kind) {
        for (int a : around(STATIONS[kind])) {
            make(kind);
            for (int b : around(STATIONS[kind])) {
                for (int what : SIDES) {
                    call = "pair(" + a + ", " + b + ", " + what + ") of " + LINKS[kind];
                    due("answer", x.pair(a, b, what), y.pair(a, b, what));
                }
            }
        }
    }

    private static void ofLike(int kind) {
        int[] bounds = {LEAST, -1, 0, 1, 2, 39, 78, 79, 98, 99, 100, MOST};
        for (int b : bounds) {
            make(kind);
            for (int a : bounds) {
                for (int what : SIDES) {
                    call = "like(" + a + ", " + b + ", " + what + ") of " + LINKS[kind];
                    due("answer", x.like(a, b, what), y.like(a, b, what));
                }
            }
        }
    }

    private static void ofBetter(int kind) {
        for (int k : around(LINKS[kind])) {
            for (int p : PARTS) {
                for (int q : PARTS) {
                    make(kind);
                    for (int what : SIDES) {
                        call = "better(" + k + ", " + p + ", " + q + ", " + what + ") of " + LINKS[kind];
                        due("answer", x.better(k, p, q, what), y.better(k, p, q, what));
                    }
                    sameNet();
                }
            }
        }
    }

    // ---- sheets

    private static void makeSheets(int zero, int one) {
        make(0);
        due("sheet", x.sheet(0, zero), y.sheet(0, zero));
        due("sheet", x.sheet(1, one), y.sheet(1, one));
        for (int i = 0; i < zero; i++) due("lay", x.lay(0, i, i + 1), y.lay(0, i, i + 1));
        for (int i = 0; i < one; i++) due("lay", x.lay(1, i, -i - 1), y.lay(1, i, -i - 1));
    }

    private static void sameSheets() {
        due("finding", x.count(8), y.count(8));
        for (int s = 0; s < 3; s++) {
            for (int i = 0; i <= 40; i++) due("get", x.get(s, i), y.get(s, i));
        }
    }

    private static void ofSheets() {
        for (int s : SHEETS) {
            for (int n : new int[] {LEAST, -1, 0, 1, 39, 40, 41, MOST}) {
                makeSheets(5, 40);
                call = "sheet(" + s + ", " + n + ")";
                due("answer", x.sheet(s, n), y.sheet(s, n));
                sameSheets();
                call = "lose(" + s + ") behind it";
                due("answer", x.lose(s), y.lose(s));
                sameSheets();
            }
        }
    }

    private static void ofItems() {
        for (int s : SHEETS) {
            for (int i : new int[] {LEAST, -1, 0, 1, 4, 5, 6, 39, 40, 41, MOST}) {
                for (int v : new int[] {LEAST, -1, 0, 1, MOST}) {
                    makeSheets(5, 40);
                    call = "lay(" + s + ", " + i + ", " + v + ")";
                    due("answer", x.lay(s, i, v), y.lay(s, i, v));
                    call = "get(" + s + ", " + i + ") behind it";
                    due("answer", x.get(s, i), y.get(s, i));
                    sameSheets();
                }
            }
        }
    }

    private static void ofCopies() {
        int[] numbers = {LEAST, -1, 0, 1, 2, 3, 4, 5, MOST};
        for (int s : SHEETS) {
            for (int t : SHEETS) {
                for (int i : numbers) {
                    for (int j : numbers) ofCopies(s, i, t, j, numbers);
                }
            }
        }
    }

    private static void ofCopies(int s, int i, int t, int j, int[] numbers) {
        for (int n : numbers) {
            makeSheets(4, 3);
            call = "copy(" + s + ", " + i + ", " + t + ", " + j + ", " + n + ")";
            due("answer", x.copy(s, i, t, j, n), y.copy(s, i, t, j, n));
            due("finding", x.count(8), y.count(8));
            for (int at = 0; at < 5; at++) {
                due("get", x.get(0, at), y.get(0, at));
                due("get", x.get(1, at), y.get(1, at));
            }
        }
    }

    private static void ofReading() {
        int[] link = {0, 1, 1, 2};
        for (int kind = 0; kind < LINKS.length; kind++) {
            for (int at = 0; at < 12; at++) {
                for (int v : new int[] {LEAST, -1, 0, 1, 2, 3, 4, 6, 7, 9, 10, MOST}) {
                    for (int n = 11; n <= 12; n++) {
                        make(kind);
                        call = "read with item " + at + " " + v + " of " + n + " behind " + LINKS[kind];
                        due("sheet", x.sheet(2, n), y.sheet(2, n));
                        for (int i = 0; i < n; i++) due("lay", x.lay(2, i, i == at ? v : link[i % 4]), y.lay(2, i, i == at ? v : link[i % 4]));
                        due("answer", x.read(2), y.read(2));
                        sameNet();
                        // of many links the plain way takes long, and they are the same each time
                        if (kind < 2) due("write", x.write(2), y.write(2));
                        for (int i = 0; i < 12; i++) due("get", x.get(2, i), y.get(2, i));
                    }
                }
            }
        }
    }

    // ---- orders

    private static void ofOrders() {
        for (String order : ORDERS) {
            for (int at = 0; at < order.length(); at++) {
                String ahead = order.substring(0, at), behind = order.substring(at + 1);
                obey(ahead + behind);
                for (char c = 0; c < 256; c++) {
                    obey(ahead + c + behind);
                    obey(ahead + c + order.substring(at));
                    obey("all;" + ahead + c + behind + ";none");
                }
            }
            for (char c = 0; c < 256; c++) obey(order + c);
        }
    }

    private static void obey(String text) {
        make(2);
        call = "obey of " + text;
        for (int i = 0; i < text.length(); i++) due("type", x.type(text.charAt(i)), y.type(text.charAt(i)));
        due("answer", x.obey(), y.obey());
        due("wrong()", x.wrong(), y.wrong());
        for (int k = 0; k < 9; k++) due("SEEN", x.info(k, 4), y.info(k, 4));
        due("source", x.count(2), y.count(2));
        due("goals", x.count(3), y.count(3));
        due("bytes", x.count(7), y.count(7));
    }
}
