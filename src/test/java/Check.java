/** What the tests share: it counts the answers that are due, and tells those that are not. */
final class Check {
    static final long LEAST = Long.MIN_VALUE;
    static final long LONG_BAD = LEAST + 2, LONG_OVER = LEAST + 5, LONG_NULL = LEAST + 11, LONG_INDEX = LEAST + 12;

    private final String name;
    private int done;
    private int wrong;

    Check(String name) {
        this.name = name;
    }

    void due(String call, long got, long want) {
        due("", call, got, want);
    }

    /** The words are only put together when they are needed: that would take most of the time. */
    void due(String test, String call, long got, long want) {
        done++;
        if (got == want) return;
        wrong++;
        if (wrong > 20) return;
        String of = test.isEmpty() ? call : test + ": " + call;
        System.out.println(name + ": " + of + " answered " + got + ", due is " + want);
    }

    void fraction(String call, long above, long below, long wantAbove, long wantBelow) {
        due(call + " above", above, wantAbove);
        due(call + " below", below, wantBelow);
    }

    /** The digest tells of all but THE ORDERS' bytes, the SHEETS and the latest FINDING. */
    void changesNothing(String call, LinkChances x, long digest, int finding) {
        due(call + ", the digest behind it", x.digest(), digest);
        due(call + ", count(8) behind it", x.count(8), finding);
    }

    void end() {
        System.out.println(name + ": " + done + " answers looked at, " + wrong + " wrong");
        if (wrong != 0 || done == 0) System.exit(1);
    }

    /** A net of n stations; a link is {a, b, p, q}. */
    static LinkChances net(int n, int[]... links) {
        LinkChances x = new LinkChances();
        x.stations(n);
        for (int[] link : links) x.link(link[0], link[1], link[2], link[3]);
        return x;
    }

    static int[] l(int a, int b, int p, int q) {
        return new int[] {a, b, p, q};
    }

    /** 0 - 1 - 3 and 0 - 2 - 3 with 1 - 2 across, each up by a half; 3 is the goal. */
    static LinkChances bridge() {
        LinkChances x = net(4, l(0, 1, 1, 2), l(0, 2, 1, 2), l(1, 2, 1, 2), l(1, 3, 1, 2), l(2, 3, 1, 2));
        x.goals(8);
        return x;
    }

    static LinkChances fullNet() {
        LinkChances x = new LinkChances();
        for (int k = 0; k < 10; k++) x.link(0, 1, 1, 9);
        x.goals(2);
        return x;
    }

    static int tell(LinkChances x, String text) {
        x.wipe();
        for (int i = 0; i < text.length(); i++) x.type(text.charAt(i));
        return x.obey();
    }

    static void fill(LinkChances x, int s, int... items) {
        x.sheet(s, items.length);
        for (int i = 0; i < items.length; i++) x.lay(s, i, items[i]);
    }
}
