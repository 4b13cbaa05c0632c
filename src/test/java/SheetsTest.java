/** Promises 26 to 32. */
public final class SheetsTest {
    private static final Check check = new Check("SheetsTest");
    private static final int LEAST = Integer.MIN_VALUE, MOST = Integer.MAX_VALUE;

    public static void main(String[] args) {
        sheet();
        lose();
        lay();
        get();
        copy();
        copyRefusals();
        read();
        readRefusals();
        write();
        check.end();
    }

    // promise 26
    private static void sheet() {
        LinkChances x = new LinkChances();
        for (int s = 0; s < 3; s++) check.due("sheet", x.sheet(s, 10 + s), 10 + s);
        for (int s = 0; s < 3; s++) {
            for (int i = 0; i < 10 + s; i++) check.due("item of a new one", x.get(s, i), 0);
            check.due("no item more", x.get(s, 10 + s), Check.LONG_INDEX);
        }
        x = new LinkChances();
        for (int s : new int[] {-1, 3, LEAST, MOST}) check.due("sheet bad", x.sheet(s, 1), -2);
        check.due("sheet bad, below 0 too", x.sheet(3, -1), -2);
        check.due("sheet of 41", x.sheet(0, 41), -2);
        check.due("sheet of many", x.sheet(0, MOST), -2);
        check.due("no finding", x.count(8), 0);
        check.due("sheet below 0", x.sheet(0, -1), -13);
        check.due("SIZE", x.count(8), 3);
        check.due("still lost", x.lose(0), -11);
        check.due("sheet far below 0", x.sheet(0, LEAST), -13);
        check.due("sheet of 40", x.sheet(0, 40), 40);
        check.due("the last item", x.lay(0, 39, 7), 1);
        check.due("a refusal changes nothing", x.sheet(0, -1), -13);
        check.due("a refusal changes nothing", x.sheet(0, 41), -2);
        check.due("the last item stays", x.get(0, 39), 7);
        check.due("sheet anew", x.sheet(0, 40), 40);
        check.due("its last item is 0", x.get(0, 39), 0);
        x.lay(0, 3, 5);
        check.due("sheet of 0", x.sheet(0, 0), 0);
        check.due("it has no item", x.get(0, 0), Check.LONG_INDEX);
        check.due("it is not lost", x.lose(0), 0);
        x.sheet(0, 4);
        check.due("an old item is gone", x.get(0, 3), 0);
    }

    // promise 27
    private static void lose() {
        LinkChances x = new LinkChances();
        Check.fill(x, 0, 1, 2, 3);
        Check.fill(x, 1, 4);
        for (int s : new int[] {-1, 3, LEAST, MOST}) check.due("lose bad", x.lose(s), -2);
        check.due("no finding", x.count(8), 0);
        check.due("lose(2), which is lost", x.lose(2), -11);
        check.due("NULL", x.count(8), 1);
        check.due("lose(0)", x.lose(0), 3);
        check.due("lose(0) again", x.lose(0), -11);
        check.due("the other one stays", x.get(1, 0), 4);
        check.due("lose(1)", x.lose(1), 1);
    }

    // promise 28
    private static void lay() {
        LinkChances x = new LinkChances();
        x.sheet(1, 3);
        check.due("lay", x.lay(1, 0, LEAST), 1);
        check.due("lay", x.lay(1, 2, MOST), 1);
        check.due("get", x.get(1, 0), LEAST);
        check.due("get", x.get(1, 1), 0);
        check.due("get", x.get(1, 2), MOST);
        for (int s : new int[] {-1, 3, LEAST, MOST}) check.due("lay bad", x.lay(s, 0, 1), -2);
        check.due("BAD comes ahead of INDEX", x.lay(3, -1, 1), -2);
        check.due("no finding", x.count(8), 0);
        for (int i : new int[] {-1, 3, 40, LEAST, MOST}) check.due("lay index", x.lay(1, i, 9), -12);
        check.due("INDEX", x.count(8), 2);
        check.due("NULL comes ahead of INDEX", x.lay(0, -1, 9), -11);
        check.due("NULL", x.count(8), 1);
        check.due("get", x.get(1, 0), LEAST);
        check.due("get", x.get(1, 2), MOST);
        check.due("a right call leaves the finding", x.count(8), 1);
    }

    // promise 29
    private static void get() {
        LinkChances x = new LinkChances();
        Check.fill(x, 2, -5, 6);
        check.due("get", x.get(2, 0), -5);
        check.due("get", x.get(2, 1), 6);
        for (int s : new int[] {-1, 3, LEAST, MOST}) check.due("get bad", x.get(s, 0), Check.LONG_BAD);
        check.due("no finding", x.count(8), 0);
        for (int i : new int[] {-1, 2, 40, LEAST, MOST}) check.due("get index", x.get(2, i), Check.LONG_INDEX);
        check.due("INDEX", x.count(8), 2);
        check.due("get of a lost one", x.get(0, -1), Check.LONG_NULL);
        check.due("NULL", x.count(8), 1);
    }

    private static void items(LinkChances x, int s, int... due) {
        for (int i = 0; i < due.length; i++) check.due("item " + i + " of sheet " + s, x.get(s, i), due[i]);
        check.due("items of sheet " + s, x.get(s, due.length), Check.LONG_INDEX);
    }

    // promise 30
    private static void copy() {
        LinkChances x = new LinkChances();
        Check.fill(x, 0, 1, 2, 3, 4, 5);
        Check.fill(x, 1, 6, 7, 8);
        check.due("copy to another", x.copy(0, 3, 1, 1, 2), 1);
        items(x, 1, 6, 4, 5);
        items(x, 0, 1, 2, 3, 4, 5);
        check.due("copy upwards within", x.copy(0, 0, 0, 1, 4), 1);
        items(x, 0, 1, 1, 2, 3, 4);
        check.due("copy downwards within", x.copy(0, 1, 0, 0, 4), 1);
        items(x, 0, 1, 2, 3, 4, 4);
        check.due("copy of nothing", x.copy(0, 5, 1, 3, 0), 1);
        check.due("copy of nothing", x.copy(0, 0, 1, 0, 0), 1);
        items(x, 0, 1, 2, 3, 4, 4);
        items(x, 1, 6, 4, 5);
        check.due("copy of all", x.copy(1, 0, 0, 2, 3), 1);
        items(x, 0, 1, 2, 6, 4, 5);
        x.sheet(2, 0);
        check.due("copy of nothing to nothing", x.copy(2, 0, 2, 0, 0), 1);
    }

    private static void copyRefusals() {
        LinkChances x = new LinkChances();
        Check.fill(x, 0, 1, 2, 3, 4, 5);
        Check.fill(x, 1, 6, 7, 8);
        int[][] bad = {{-1, 0, 0, 0, 1}, {3, 0, 0, 0, 1}, {0, 0, -1, 0, 1}, {0, 0, 3, 0, 1}, {2, 0, 3, 0, 1}, {3, 0, 2, 0, 1},
            {LEAST, 0, 0, 0, -1}, {0, -1, MOST, 0, 1}};
        for (int[] c : bad) check.due("copy bad", x.copy(c[0], c[1], c[2], c[3], c[4]), -2);
        check.due("no finding", x.count(8), 0);
        int[][] index = {{0, -1, 1, 0, 1}, {0, 0, 1, -1, 1}, {0, 0, 1, 0, -1}, {0, 0, 1, 0, 4}, {0, 3, 1, 0, 3}, {0, 0, 1, 2, 2},
            {1, 0, 0, 4, 2}, {0, 6, 1, 0, 0}, {0, 0, 1, 4, 0}, {0, 5, 1, 0, 1}, {0, 0, 1, 3, 1}, {0, MOST, 1, 0, 1}, {0, 0, 1, MOST, 1},
            {0, 1, 1, 0, MOST}, {0, MOST, 1, MOST, MOST}, {0, LEAST, 1, 0, 0}, {0, 0, 1, LEAST, 0}, {0, 0, 1, 0, LEAST}, {0, 1, 0, 2, 4},
            {0, -1, 1, 0, 0}, {0, 0, 1, -1, 0}};
        for (int[] c : index) check.due("copy index", x.copy(c[0], c[1], c[2], c[3], c[4]), -12);
        check.due("INDEX", x.count(8), 2);
        check.due("copy from a lost one", x.copy(2, -1, 0, 0, 1), -11);
        check.due("NULL", x.count(8), 1);
        x.lay(0, 9, 9);
        check.due("copy to a lost one", x.copy(0, -1, 2, 0, 1), -11);
        check.due("NULL", x.count(8), 1);
        items(x, 0, 1, 2, 3, 4, 5);
        items(x, 1, 6, 7, 8);
    }

    // promise 31
    private static void read() {
        LinkChances x = new LinkChances();
        Check.fill(x, 0, 0, 3, 1, 2, 2, 1, 9, 9, 0, 1, 1, 2);
        check.due("read(0)", x.read(0), 3);
        int[] due = {1, 2, 9, 9, 0};
        for (int what = 0; what < 5; what++) check.due("info of the second", x.info(1, what), due[what]);
        check.due("links", x.count(1), 3);
        check.due("read(0) again", x.read(0), 3);
        check.due("read(0) again", x.read(0), 3);
        check.due("read(0) with room for one", x.read(0), 1);
        check.due("the last is the first of it", x.info(9, 1), 3);
        check.due("read(0) without room", x.read(0), 0);
        check.due("links", x.count(1), 10);
        LinkChances y = new LinkChances();
        for (int items = 0; items < 12; items++) {
            y.stations(4);
            y.sheet(1, items);
            for (int i = 0; i < items; i++) y.lay(1, i, new int[] {0, 3, 1, 2}[i % 4]);
            check.due("read(1) of " + items, y.read(1), items / 4);
            check.due("links", y.count(1), items / 4);
        }
        y.stations(4);
        y.sheet(1, 40);
        for (int i = 0; i < 40; i++) y.lay(1, i, new int[] {2, 1, 1, 3}[i % 4]);
        check.due("read(1) of 40", y.read(1), 10);
        y.sheet(1, 0);
        check.due("read(1) of 0", y.read(1), 0);
    }

    private static void readRefusals() {
        LinkChances x = new LinkChances();
        for (int s : new int[] {-1, 3, LEAST, MOST}) check.due("read bad", x.read(s), -2);
        check.due("no finding", x.count(8), 0);
        check.due("read of a lost one", x.read(1), -11);
        check.due("NULL", x.count(8), 1);
        int[][] bad = {{0, 0, 1, 2}, {-1, 0, 1, 2}, {0, 4, 1, 2}, {4, 0, 1, 2}, {0, -1, 1, 2}, {0, 1, -1, 2}, {0, 1, 3, 2},
            {0, 1, 0, 0}, {0, 1, 1, 10}, {LEAST, 1, 1, 2}, {0, MOST, 1, 2}, {0, 1, LEAST, 2}, {0, 1, 0, MOST}};
        for (int[] b : bad) {
            x.stations(4);
            Check.fill(x, 0, 0, 1, 1, 2, b[0], b[1], b[2], b[3], 0, 1, 1, 2);
            check.due("read as long as each may be", x.read(0), 1);
            check.due("links", x.count(1), 1);
        }
    }

    // promise 32
    private static void write() {
        LinkChances x = new LinkChances();
        for (int s : new int[] {-1, 3, LEAST, MOST}) check.due("write bad", x.write(s), -2);
        check.due("no finding", x.count(8), 0);
        check.due("write of a lost one", x.write(2), -11);
        check.due("NULL", x.count(8), 1);
        Check.fill(x, 0, 9, 9, 9, 9, 9, 9, 9, 9);
        check.due("write without links", x.write(0), 0);
        items(x, 0, 9, 9, 9, 9, 9, 9, 9, 9);
        x.link(0, 1, 1, 2);
        x.link(1, 2, 2, 3);
        x.link(0, 2, 1, 4);
        x.goals(4);
        check.due("write", x.write(0), 6);
        items(x, 0, 1, 2, 3, 8, 2, 3, 9, 9);
        x.sheet(1, 3);
        check.due("write of three", x.write(1), 3);
        items(x, 1, 1, 2, 3);
        x.sheet(1, 6);
        check.due("write of six", x.write(1), 6);
        items(x, 1, 1, 2, 3, 8, 2, 3);
        x.see(2, 1);
        check.due("write with one seen", x.write(1), 6);
        items(x, 1, 0, 1, 0, 1, 2, 3);
        x.sheet(1, 0);
        check.due("write of none", x.write(1), 0);
        LinkChances full = Check.fullNet();
        full.sheet(0, 40);
        check.due("write of ten links", full.write(0), 20);
        check.due("above of the last", full.get(0, 18), 134217728);
        check.due("below of the last", full.get(0, 19), 387420489);
        check.due("nothing behind it", full.get(0, 20), 0);
    }
}
