/** Boundary cases of promises 26 to 32. */
public final class EdgesSheetsTest extends Edges {
    private static final int[] NO_SHEETS = {LEAST, LEAST + 1, -2, -1, 3, 4, MOST - 1, MOST};
    private static final int[] NO_ITEMS_EVER = {LEAST, LEAST + 1, -40, -2, -1, 40, 41, MOST - 1, MOST};
    private static final int[] ODD = {LEAST, -1, 0, 1, 40, 41, MOST};

    public static void main(String[] args) {
        run(EdgesSheetsTest.class, 26, 32);
    }

    private static void items(String of, LinkChances x, int s, long... due) {
        for (int i = 0; i < due.length; i++) due("item " + i + " of " + of, x.get(s, i), due[i]);
        due("no item more of " + of, x.get(s, due.length), LONG_INDEX);
    }

    /** Sheet 0 has 1, 2, 3 and so on, sheet 1 has -1, -2, -3 and so on, sheet 2 is lost. */
    private static LinkChances two(int zero, int one) {
        LinkChances x = new LinkChances();
        x.sheet(0, zero);
        x.sheet(1, one);
        for (int i = 0; i < zero; i++) x.lay(0, i, i + 1);
        for (int i = 0; i < one; i++) x.lay(1, i, -i - 1);
        return x;
    }

    private static long[] counted(int items, int sign) {
        long[] all = new long[items];
        for (int i = 0; i < items; i++) all[i] = (long) sign * (i + 1);
        return all;
    }

    private static void fill(LinkChances x, int s, int... all) {
        Check.fill(x, s, all);
    }

    // ---- promise 26: sheet

    static void promise26_noSuchSheetIsBad() {
        for (int n : new int[] {0, 1, 40}) refused("sheet of " + n, BAD, NO_SHEETS, (x, s) -> x.sheet(s, n));
    }

    static void promise26_above40IsBad() {
        for (int s = 0; s < 3; s++) {
            int sheet = s;
            refused("sheet " + s, BAD, numbers(41, 42, 1000, MOST - 1, MOST), (x, n) -> x.sheet(sheet, n));
        }
    }

    static void promise26_belowZeroIsSize() {
        for (int s = 0; s < 3; s++) {
            int sheet = s;
            refused("sheet " + s, SIZE, numbers(-1, -2, -40, -41, LEAST, LEAST + 1), (x, n) -> x.sheet(sheet, n));
        }
    }

    static void promise26_badComesAheadOfSize() {
        for (int n : new int[] {-1, LEAST}) refused("sheet of " + n, BAD, NO_SHEETS, (x, s) -> x.sheet(s, n));
        refused("sheet of 41", BAD, NO_SHEETS, (x, s) -> x.sheet(s, 41));
        refused("sheet, all wrong", BAD, numbers(LEAST, -1, 41, MOST), (x, v) -> x.sheet(v, v));
    }

    static void promise26_eachSizeFromZeroTo40() {
        for (int s = 0; s < 3; s++) {
            for (int n = 0; n <= 40; n++) {
                LinkChances x = new LinkChances();
                due("sheet(" + s + ", " + n + ")", x.sheet(s, n), n);
                items("it", x, s, new long[n]);
                due("lose(" + s + ")", x.lose(s), n);
            }
        }
    }

    static void promise26_aNewRowIsZero() {
        for (int n : new int[] {0, 1, 39, 40}) {
            LinkChances x = fullDesk();
            due("sheet(1, " + n + ")", x.sheet(1, n), n);
            items("it", x, 1, new long[n]);
        }
    }

    static void promise26_smallerThenGreaterIsZero() {
        LinkChances x = two(40, 0);
        x.sheet(0, 0);
        x.sheet(0, 40);
        items("it", x, 0, new long[40]);
        LinkChances y = two(40, 0);
        y.lose(0);
        y.sheet(0, 40);
        items("one that was lost", y, 0, new long[40]);
    }

    static void promise26_theOthersStay() {
        LinkChances x = two(4, 3);
        x.sheet(2, 40);
        items("sheet 0", x, 0, 1, 2, 3, 4);
        items("sheet 1", x, 1, -1, -2, -3);
        x.sheet(0, 2);
        items("sheet 1", x, 1, -1, -2, -3);
        items("sheet 2", x, 2, new long[40]);
    }

    static void promise26_theNetStays() {
        LinkChances x = busyDesk(), y = busyDesk();
        x.sheet(0, 40);
        x.sheet(2, 0);
        due("digest", x.digest(), y.digest());
        due("finding", x.count(8), 2);
    }

    // ---- promise 27: lose

    static void promise27_noSuchSheetIsBad() {
        refused("lose", BAD, NO_SHEETS, LinkChances::lose);
    }

    static void promise27_aLostOneIsNull() {
        refusedOn(LinkChances::new, "lose", NULL, numbers(0, 1, 2), LinkChances::lose);
        refusedOn(Edges::busyDesk, "lose", NULL, numbers(2), LinkChances::lose);
    }

    static void promise27_howManyItemsItHad() {
        for (int n : new int[] {0, 1, 39, 40}) {
            LinkChances x = two(n, 5);
            due("lose(0)", x.lose(0), n);
            due("lose(0) again", x.lose(0), NULL);
            due("lose(1)", x.lose(1), 5);
            due("lose(1) again", x.lose(1), NULL);
        }
    }

    static void promise27_itIsLostForEveryCall() {
        LinkChances x = two(4, 4);
        x.lose(0);
        due("lay", x.lay(0, 0, 1), NULL);
        due("get", x.get(0, 0), LONG_NULL);
        due("copy from it", x.copy(0, 0, 1, 0, 1), NULL);
        due("copy to it", x.copy(1, 0, 0, 0, 1), NULL);
        due("read", x.read(0), NULL);
        due("write", x.write(0), NULL);
        items("the other one", x, 1, -1, -2, -3, -4);
    }

    static void promise27_aRefusedSheetIsStillLost() {
        LinkChances x = new LinkChances();
        x.sheet(0, -1);
        due("behind SIZE", x.lose(0), NULL);
        x.sheet(0, 41);
        due("behind BAD", x.lose(0), NULL);
        x.sheet(0, 0);
        due("without items it is not lost", x.lose(0), 0);
    }

    // ---- promise 28: lay

    static void promise28_noSuchSheetIsBad() {
        for (int i : ODD) refused("lay at " + i, BAD, NO_SHEETS, (x, s) -> x.lay(s, i, 7));
    }

    static void promise28_aLostOneIsNullWhateverTheIndex() {
        for (int i : ODD) {
            refusedOn(LinkChances::new, "lay at " + i, NULL, numbers(0, 1, 2), (x, s) -> x.lay(s, i, 7));
            refusedOn(Edges::busyDesk, "lay at " + i, NULL, x -> x.lay(2, i, 7));
        }
    }

    static void promise28_noSuchItemIsIndex() {
        refusedOn(Edges::fullDesk, "lay", INDEX, NO_ITEMS_EVER, (x, i) -> x.lay(1, i, 7));
        refusedOn(Edges::busyDesk, "lay", INDEX, numbers(LEAST, -1, 12, 13, 39, 40, MOST), (x, i) -> x.lay(0, i, 7));
        refusedOn(Edges::busyDesk, "lay on one without items", INDEX, numbers(LEAST, -1, 0, 1, 39, 40, MOST), (x, i) -> x.lay(1, i, 7));
        refusedOn(() -> two(1, 40), "lay on one item", INDEX, numbers(-1, 1, 2, 39), (x, i) -> x.lay(0, i, 7));
    }

    static void promise28_theFirstAndTheLastItem() {
        for (int n : new int[] {1, 2, 39, 40}) {
            for (int i : new int[] {0, n - 1}) {
                LinkChances x = two(n, n);
                due("lay(0, " + i + ")", x.lay(0, i, 77), 1);
                long[] due = counted(n, 1);
                due[i] = 77;
                items("it", x, 0, due);
                items("the other one", x, 1, counted(n, -1));
            }
        }
    }

    static void promise28_leastAndGreatestNumber() {
        LinkChances x = two(3, 0);
        for (int v : new int[] {LEAST, LEAST + 1, -1, 0, 1, MOST - 1, MOST}) {
            due("lay", x.lay(0, 1, v), 1);
            due("get", x.get(0, 1), v);
        }
        items("it", x, 0, 1, MOST, 3);
    }

    // ---- promise 29: get

    static void promise29_noSuchSheetIsBad() {
        for (int i : ODD) refused("get of " + i, LONG_BAD, NO_SHEETS, (x, s) -> x.get(s, i));
    }

    static void promise29_aLostOneIsNullWhateverTheIndex() {
        for (int i : ODD) {
            refusedOn(LinkChances::new, "get of " + i, LONG_NULL, numbers(0, 1, 2), (x, s) -> x.get(s, i));
            refusedOn(Edges::busyDesk, "get of " + i, LONG_NULL, x -> x.get(2, i));
        }
    }

    static void promise29_noSuchItemIsIndex() {
        refusedOn(Edges::fullDesk, "get", LONG_INDEX, NO_ITEMS_EVER, (x, i) -> x.get(1, i));
        refusedOn(Edges::busyDesk, "get", LONG_INDEX, numbers(LEAST, -1, 12, 13, 39, 40, MOST), (x, i) -> x.get(0, i));
        refusedOn(Edges::busyDesk, "get of one without items", LONG_INDEX, numbers(LEAST, -1, 0, 1, 39, 40, MOST), (x, i) -> x.get(1, i));
    }

    static void promise29_theFirstAndTheLastItem() {
        for (int n : new int[] {1, 2, 39, 40}) {
            LinkChances x = two(n, n);
            due("the first", x.get(0, 0), 1);
            due("the last", x.get(0, n - 1), n);
            due("the first of the other one", x.get(1, 0), -1);
            due("the last of the other one", x.get(1, n - 1), -n);
            due("the next", x.get(1, n), LONG_INDEX);
        }
    }

    static void promise29_changesNothing() {
        leavesNothing(Edges::busyDesk, "get", x -> x.get(0, 11));
        leavesNothing(Edges::fullDesk, "get", x -> x.get(2, 39));
    }

    // ---- promise 30: copy

    static void promise30_noSuchSheetIsBad() {
        refused("copy from", BAD, NO_SHEETS, (x, s) -> x.copy(s, 0, 0, 0, 1));
        refused("copy to", BAD, NO_SHEETS, (x, t) -> x.copy(0, 0, t, 0, 1));
        refused("copy from and to", BAD, NO_SHEETS, (x, v) -> x.copy(v, 0, v, 0, 0));
    }

    static void promise30_badComesAheadOfNull() {
        refused("copy from, to sheet 2", BAD, NO_SHEETS, (x, s) -> x.copy(s, 0, 2, 0, 1));
        refused("copy to, from sheet 2", BAD, NO_SHEETS, (x, t) -> x.copy(2, 0, t, 0, 1));
    }

    static void promise30_badComesAheadOfIndex() {
        refused("copy, all wrong", BAD, NO_SHEETS, (x, v) -> x.copy(v, v, v, v, v));
        refused("copy from", BAD, NO_SHEETS, (x, s) -> x.copy(s, -1, 0, 0, 1));
        refused("copy to", BAD, NO_SHEETS, (x, t) -> x.copy(0, 0, t, 0, 41));
    }

    static void promise30_aLostOneIsNull() {
        for (int other = 0; other < 3; other++) {
            int sheet = other;
            refusedOn(Edges::busyDesk, "copy from a lost one", NULL, x -> x.copy(2, 0, sheet, 0, 0));
            refusedOn(Edges::busyDesk, "copy to a lost one", NULL, x -> x.copy(sheet, 0, 2, 0, 0));
            refusedOn(LinkChances::new, "copy among lost ones", NULL, x -> x.copy(sheet, 0, sheet, 0, 0));
        }
    }

    static void promise30_nullComesAheadOfIndex() {
        refusedOn(Edges::busyDesk, "copy from a lost one", NULL, NO_ITEMS_EVER, (x, v) -> x.copy(2, v, 0, 0, 1));
        refusedOn(Edges::busyDesk, "copy from a lost one", NULL, NO_ITEMS_EVER, (x, v) -> x.copy(2, 0, 0, v, 1));
        refusedOn(Edges::busyDesk, "copy to a lost one", NULL, NO_ITEMS_EVER, (x, v) -> x.copy(0, v, 2, 0, 1));
        refusedOn(Edges::busyDesk, "copy to a lost one", NULL, NO_ITEMS_EVER, (x, v) -> x.copy(0, 0, 2, 0, v));
        refusedOn(Edges::busyDesk, "copy from one without items to a lost one", NULL, x -> x.copy(1, 0, 2, 0, 1));
    }

    static void promise30_belowZeroIsIndex() {
        int[] below = {LEAST, LEAST + 1, -2, -1};
        refusedOn(Edges::fullDesk, "copy from", INDEX, below, (x, i) -> x.copy(0, i, 1, 0, 1));
        refusedOn(Edges::fullDesk, "copy from, none", INDEX, below, (x, i) -> x.copy(0, i, 1, 0, 0));
        refusedOn(Edges::fullDesk, "copy to", INDEX, below, (x, j) -> x.copy(0, 0, 1, j, 1));
        refusedOn(Edges::fullDesk, "copy to, none", INDEX, below, (x, j) -> x.copy(0, 0, 1, j, 0));
        refusedOn(Edges::fullDesk, "copy of", INDEX, below, (x, n) -> x.copy(0, 0, 1, 0, n));
        refusedOn(Edges::fullDesk, "copy of, from 5 to 5", INDEX, below, (x, n) -> x.copy(0, 5, 1, 5, n));
        refusedOn(Edges::fullDesk, "copy, all below 0", INDEX, below, (x, v) -> x.copy(0, v, 1, v, v));
    }

    static void promise30_notSoManyIsIndex() {
        refusedOn(Edges::fullDesk, "copy of", INDEX, numbers(41, 42, MOST - 1, MOST), (x, n) -> x.copy(0, 0, 1, 0, n));
        refusedOn(Edges::fullDesk, "copy of one from", INDEX, numbers(40, 41, MOST - 1, MOST), (x, i) -> x.copy(0, i, 1, 0, 1));
        refusedOn(Edges::fullDesk, "copy of one to", INDEX, numbers(40, 41, MOST - 1, MOST), (x, j) -> x.copy(0, 0, 1, j, 1));
        refusedOn(Edges::fullDesk, "copy within, of 40 from", INDEX, numbers(1, 39, 40), (x, i) -> x.copy(0, i, 0, 0, 40));
        refusedOn(() -> two(5, 3), "more than the first has", INDEX, x -> x.copy(1, 0, 0, 0, 4));
        refusedOn(() -> two(5, 3), "more than the second takes", INDEX, x -> x.copy(0, 0, 1, 0, 4));
        refusedOn(Edges::busyDesk, "from one without items", INDEX, x -> x.copy(1, 0, 0, 0, 1));
        refusedOn(Edges::busyDesk, "to one without items", INDEX, x -> x.copy(0, 0, 1, 0, 1));
    }

    static void promise30_noneFromAboveIsIndex() {
        refusedOn(() -> two(5, 3), "none from", INDEX, numbers(6, 7, 40, 41, MOST), (x, i) -> x.copy(0, i, 1, 0, 0));
        refusedOn(() -> two(5, 3), "none to", INDEX, numbers(4, 5, 40, 41, MOST), (x, j) -> x.copy(0, 0, 1, j, 0));
        refusedOn(() -> two(5, 0), "none from one without items", INDEX, numbers(1, 2, MOST), (x, i) -> x.copy(1, i, 0, 0, 0));
        refusedOn(() -> two(5, 0), "none to one without items", INDEX, numbers(1, 2, MOST), (x, j) -> x.copy(0, 0, 1, j, 0));
        refusedOn(Edges::fullDesk, "none from 41", INDEX, x -> x.copy(0, 41, 1, 0, 0));
        refusedOn(Edges::fullDesk, "none to 41", INDEX, x -> x.copy(0, 0, 1, 41, 0));
    }

    static void promise30_noneFromJustBehindTheLastIsDone() {
        leavesNothing(() -> two(5, 3), "none from 5 to 3", x -> x.copy(0, 5, 1, 3, 0));
        due("none from 5 to 3", two(5, 3).copy(0, 5, 1, 3, 0), 1);
        due("none from 0 to 0", two(5, 3).copy(0, 0, 1, 0, 0), 1);
        due("none among none", two(0, 0).copy(0, 0, 1, 0, 0), 1);
        due("none within none", two(0, 0).copy(0, 0, 0, 0, 0), 1);
        due("none from 40 to 40", fullDesk().copy(0, 40, 1, 40, 0), 1);
        leavesNothing(Edges::fullDesk, "none from 40 to 40", x -> x.copy(2, 40, 2, 40, 0));
    }

    static void promise30_numbersThatWrapTogether() {
        int[][] all = {{1, MOST}, {MOST, 1}, {MOST, MOST}, {LEAST, LEAST}, {LEAST, MOST}, {MOST, LEAST}, {-1, 1}, {1, -1}, {-5, 6}, {6, -5},
            {MOST - 3, 4}, {4, MOST - 3}, {LEAST, 0}, {0, LEAST}, {-1, MOST}, {2, MOST - 1}};
        for (int[] c : all) {
            refusedOn(Edges::fullDesk, "copy from " + c[0] + " of " + c[1], INDEX, x -> x.copy(0, c[0], 1, 0, c[1]));
            refusedOn(Edges::fullDesk, "copy to " + c[0] + " of " + c[1], INDEX, x -> x.copy(0, 0, 1, c[0], c[1]));
            refusedOn(Edges::fullDesk, "copy within, from and to " + c[0] + " of " + c[1], INDEX, x -> x.copy(2, c[0], 2, c[0], c[1]));
        }
    }

    static void promise30_allOfForty() {
        LinkChances x = two(40, 40);
        due("copy", x.copy(0, 0, 1, 0, 40), 1);
        items("sheet 1", x, 1, counted(40, 1));
        items("sheet 0", x, 0, counted(40, 1));
        LinkChances y = two(40, 40);
        due("the last one to the last", y.copy(0, 39, 1, 39, 1), 1);
        long[] due = counted(40, -1);
        due[39] = 40;
        items("sheet 1", y, 1, due);
    }

    private static boolean may(int size, int at, int n) {
        return at >= 0 && n >= 0 && at + n <= size;
    }

    static void promise30_everyFewAmongSmallSheets() {
        for (int zero = 0; zero <= 3; zero++) {
            for (int one = 0; one <= 3; one++) {
                for (int c = 0; c < 216; c++) copyOne(zero, one, c / 36 - 1, c / 6 % 6 - 1, c % 6 - 1);
            }
        }
    }

    private static void copyOne(int zero, int one, int i, int j, int n) {
        LinkChances x = two(zero, one);
        boolean may = may(zero, i, n) && may(one, j, n);
        due("copy(0, " + i + ", 1, " + j + ", " + n + ")", x.copy(0, i, 1, j, n), may ? 1 : INDEX);
        due("finding", x.count(8), may ? 0 : 2);
        long[] due = counted(one, -1);
        for (int at = 0; may && at < n; at++) due[j + at] = i + at + 1;
        items("sheet 0", x, 0, counted(zero, 1));
        items("sheet 1", x, 1, due);
    }

    static void promise30_withinOneSheetAsTheyWere() {
        for (int c = 0; c < 343; c++) {
            int i = c / 49 - 1, j = c / 7 % 7 - 1, n = c % 7 - 1;
            LinkChances x = two(5, 0);
            boolean may = may(5, i, n) && may(5, j, n);
            due("copy(0, " + i + ", 0, " + j + ", " + n + ")", x.copy(0, i, 0, j, n), may ? 1 : INDEX);
            long[] due = counted(5, 1);
            for (int at = 0; may && at < n; at++) due[j + at] = i + at + 1;
            items("it", x, 0, due);
        }
    }

    static void promise30_fortyWithinByOne() {
        LinkChances up = two(40, 0), down = two(40, 0);
        due("upwards", up.copy(0, 0, 0, 1, 39), 1);
        due("downwards", down.copy(0, 1, 0, 0, 39), 1);
        long[] dueUp = new long[40], dueDown = new long[40];
        for (int i = 0; i < 40; i++) {
            dueUp[i] = Math.max(1, i);
            dueDown[i] = Math.min(40, i + 2);
        }
        items("upwards", up, 0, dueUp);
        items("downwards", down, 0, dueDown);
    }

    // ---- promise 31: read

    static void promise31_noSuchSheetIsBad() {
        refused("read", BAD, NO_SHEETS, LinkChances::read);
    }

    static void promise31_aLostOneIsNull() {
        refusedOn(LinkChances::new, "read", NULL, numbers(0, 1, 2), LinkChances::read);
        refusedOn(Edges::busyDesk, "read", NULL, numbers(2), LinkChances::read);
    }

    private static LinkChances withLinksOn(int items, int links) {
        LinkChances x = new LinkChances();
        for (int k = 0; k < links; k++) x.link(0, 1, 1, 2);
        x.sheet(0, items);
        for (int i = 0; i < items; i++) x.lay(0, i, new int[] {3, 2, 1, 4}[i % 4]);
        return x;
    }

    static void promise31_asManyAsAreWhole() {
        for (int items = 0; items <= 40; items++) {
            LinkChances x = withLinksOn(items, 0);
            due("read of " + items + " items", x.read(0), items / 4);
            due("links", x.count(1), items / 4);
        }
    }

    static void promise31_asLongAsThereIsRoom() {
        for (int links = 0; links <= 10; links++) {
            LinkChances x = withLinksOn(40, links);
            due("read with " + links + " links", x.read(0), 10 - links);
            due("links", x.count(1), 10);
            due("read again", x.read(0), 0);
            LinkChances y = withLinksOn(8, links);
            due("read of two with " + links + " links", y.read(0), Math.min(2, 10 - links));
            due("links", y.count(1), Math.min(10, links + 2));
        }
    }

    static void promise31_noneIsNoRefusal() {
        leavesNothing(() -> withLinksOn(0, 3), "read of no items", x -> x.read(0));
        leavesNothing(() -> withLinksOn(3, 3), "read of three items", x -> x.read(0));
        leavesNothing(Edges::fullDesk, "read without room", x -> x.read(0));
        leavesNothing(() -> withLinksOn(40, 10), "read of ten without room", x -> x.read(0));
        due("without room", withLinksOn(40, 10).read(0), 0);
    }

    /** What may not be a, b, p, q of a link among four stations, each by one of them, and by all. */
    private static final int[][] NO_LINKS = {{-1, 0, 1, 2}, {4, 0, 1, 2}, {0, -1, 1, 2}, {0, 4, 1, 2}, {0, 0, 1, 2}, {3, 3, 1, 2}, {0, 1, -1, 2},
        {0, 1, 3, 2}, {0, 1, 0, 0}, {0, 1, 1, 10}, {0, 1, 10, 10}, {0, 1, 0, -1}, {0, 1, -1, -1}, {LEAST, 1, 1, 2}, {MOST, 1, 1, 2},
        {0, LEAST, 1, 2}, {0, MOST, 1, 2}, {0, 1, LEAST, 2}, {0, 1, MOST, 2}, {0, 1, 0, LEAST}, {0, 1, 0, MOST}, {LEAST, LEAST, LEAST, LEAST},
        {MOST, MOST, MOST, MOST}};

    static void promise31_asLongAsEachMayBe() {
        for (int[] no : NO_LINKS) {
            LinkChances x = new LinkChances();
            fill(x, 0, 1, 0, 9, 9, no[0], no[1], no[2], no[3], 2, 3, 1, 2);
            due("the second may not be", x.read(0), 1);
            due("links", x.count(1), 1);
            due("p of the first", x.info(0, 2), 9);
            due("no finding", x.count(8), 0);
            fill(x, 1, no[0], no[1], no[2], no[3], 2, 3, 1, 2);
            due("the first may not be", x.read(1), 0);
            due("links", x.count(1), 1);
            due("no finding", x.count(8), 0);
            fill(x, 2, 2, 3, 1, 2, 0, 1, 0, 1, no[0], no[1], no[2], no[3]);
            due("the last may not be", x.read(2), 2);
            due("links", x.count(1), 3);
        }
    }

    static void promise31_leastAndGreatestOfEach() {
        LinkChances x = Check.net(7);
        fill(x, 0, 0, 6, 0, 1, 6, 0, 9, 9, 5, 6, 0, 9, 1, 0, 1, 1);
        due("read", x.read(0), 4);
        int[][] due = {{0, 6, 0, 1, 0}, {0, 6, 9, 9, 0}, {5, 6, 0, 9, 0}, {0, 1, 1, 1, 0}};
        for (int k = 0; k < 4; k++) {
            for (int what = 0; what < 5; what++) due("info(" + k + ", " + what + ")", x.info(k, what), due[k][what]);
        }
        LinkChances y = Check.net(2);
        fill(y, 0, 0, 1, 1, 2, 0, 2, 1, 2);
        due("read among two stations", y.read(0), 1);
    }

    static void promise31_theyComeBehindAndAreNotSeen() {
        LinkChances x = Check.bridge();
        x.see(4, 2);
        fill(x, 0, 3, 0, 2, 6);
        due("read", x.read(0), 1);
        int[] due = {0, 3, 2, 6, 0};
        for (int what = 0; what < 5; what++) due("info(5, " + what + ")", x.info(5, what), due[what]);
        due("SEEN ahead of it", x.info(4, 4), 2);
        x.see(5, 1);
        x.back();
        due("read again", x.read(0), 1);
        due("not SEEN", x.info(5, 4), 0);
    }

    static void promise31_theSheetStays() {
        LinkChances x = withLinksOn(9, 0);
        due("read", x.read(0), 2);
        items("it", x, 0, 3, 2, 1, 4, 3, 2, 1, 4, 3);
        due("read again", x.read(0), 2);
        due("links", x.count(1), 4);
    }

    static void promise31_whatWriteCame() {
        LinkChances x = Check.net(4, Check.l(0, 1, 1, 2), Check.l(1, 2, 2, 3), Check.l(0, 2, 1, 4));
        x.goals(4);
        x.sheet(0, 8);
        due("write", x.write(0), 6);
        due("read of 1, 2, 3, 8 and of 2, 3, 0, 0", x.read(0), 1);
        int[] due = {1, 2, 3, 8, 0};
        for (int what = 0; what < 5; what++) due("info(3, " + what + ")", x.info(3, what), due[what]);
        LinkChances y = beside(10, 1, 9);
        y.sheet(0, 4);
        y.write(0);
        y.back();
        due("read of great numbers", y.read(0), 0);
    }

    // ---- promise 32: write

    static void promise32_noSuchSheetIsBad() {
        refused("write", BAD, NO_SHEETS, LinkChances::write);
    }

    static void promise32_aLostOneIsNull() {
        refusedOn(LinkChances::new, "write", NULL, numbers(0, 1, 2), LinkChances::write);
        refusedOn(Edges::busyDesk, "write", NULL, numbers(2), LinkChances::write);
    }

    static void promise32_noLinks() {
        for (int n : new int[] {0, 1, 39, 40}) {
            LinkChances x = two(n, 0);
            due("write", x.write(0), 0);
            items("it", x, 0, counted(n, 1));
        }
        leavesNothing(() -> two(40, 3), "write without links", x -> x.write(0));
    }

    static void promise32_noItems() {
        leavesNothing(Edges::busyDesk, "write on one without items", x -> x.write(1));
        due("write", busyDesk().write(1), 0);
        LinkChances x = fullDesk();
        x.sheet(0, 0);
        due("write of ten", x.write(0), 0);
    }

    static void promise32_asManyAsThereAreItems() {
        long[] all = {1, 2, 3, 8, 2, 3};
        for (int n = 0; n <= 9; n++) {
            LinkChances x = Check.net(4, Check.l(0, 1, 1, 2), Check.l(1, 2, 2, 3), Check.l(0, 2, 1, 4));
            x.goals(4);
            x.sheet(0, n);
            for (int i = 0; i < n; i++) x.lay(0, i, -7);
            due("write on " + n, x.write(0), Math.min(n, 6));
            long[] due = new long[n];
            for (int i = 0; i < n; i++) due[i] = i < 6 ? all[i] : -7;
            items("it", x, 0, due);
        }
    }

    static void promise32_asManyAsThereAreNumbers() {
        for (int links = 1; links <= 10; links++) {
            LinkChances x = beside(links, 0, 9);
            x.sheet(2, 40);
            for (int i = 0; i < 40; i++) x.lay(2, i, -7);
            due("write of " + links, x.write(2), 2 * links);
            long[] due = new long[40];
            for (int i = 0; i < 40; i++) due[i] = i < 2 * links ? 1 : -7;
            items("it", x, 2, due);
        }
    }

    static void promise32_nineteenTwentyAndTwentyOneItems() {
        for (int n = 19; n <= 21; n++) {
            LinkChances x = beside(10, 1, 9);
            x.sheet(1, n);
            due("write of ten on " + n, x.write(1), Math.min(n, 20));
            due("above of the last", x.get(1, 18), 134217728);
            if (n > 19) due("below of the last", x.get(1, 19), 387420489);
            if (n > 20) due("nothing behind it", x.get(1, 20), 0);
        }
    }

    static void promise32_seenOnesToo() {
        LinkChances x = Check.net(4, Check.l(0, 1, 1, 2), Check.l(1, 2, 2, 3), Check.l(0, 2, 1, 4));
        x.goals(4);
        for (int k = 0; k < 3; k++) x.see(k, 2);
        x.sheet(0, 6);
        due("write with all down", x.write(0), 6);
        items("it", x, 0, 0, 1, 0, 1, 1, 1);
        for (int k = 0; k < 3; k++) x.see(k, 1);
        due("write with all up", x.write(0), 6);
        items("it", x, 0, 0, 1, 0, 1, 0, 1);
    }

    static void promise32_onlyThatSheet() {
        LinkChances x = busyDesk(), y = busyDesk();
        due("write(0)", x.write(0), 12);
        due("digest", x.digest(), y.digest());
        due("the other one", x.lose(1), 0);
        due("the lost one", x.lose(2), NULL);
        due("its items", x.lose(0), 12);
    }
}
