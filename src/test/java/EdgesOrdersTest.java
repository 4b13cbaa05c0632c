/** Boundary cases of promises 22 to 25. */
public final class EdgesOrdersTest extends Edges {
    private static final String[] WITH_FIGURE = {"up", "down", "free", "goal", "from"};
    private static final String[] ALONE = {"all", "none"};

    public static void main(String[] args) {
        run(EdgesOrdersTest.class, 22, 25);
    }

    private static String times(String part, int times) {
        return part.repeat(times);
    }

    // ---- promise 22: type

    static void promise22_belowZeroIsBad() {
        refused("type", BAD, numbers(-1, -2, -128, -255, LEAST, LEAST + 1), LinkChances::type);
    }

    static void promise22_above255IsBad() {
        refused("type", BAD, numbers(256, 257, 1000, MOST - 1, MOST), LinkChances::type);
    }

    static void promise22_everyByteIsTaken() {
        for (int b = 0; b <= 255; b++) {
            LinkChances x = new LinkChances();
            due("type(" + b + ")", x.type(b), 1);
            due("bytes", x.count(7), 1);
            due("type(" + (255 - b) + ")", x.type(255 - b), 2);
            due("wipe()", x.wipe(), 2);
        }
    }

    static void promise22_sixtyBytesAreTaken() {
        LinkChances x = new LinkChances();
        for (int i = 1; i <= 60; i++) {
            due("type", x.type(i % 2 == 0 ? 0 : 255), i);
            due("bytes", x.count(7), i);
        }
    }

    static void promise22_theSixtyFirstIsFull() {
        refusedOn(Edges::fullDesk, "type", FULL, numbers(0, 1, 'a', ';', '0', 254, 255), LinkChances::type);
    }

    static void promise22_badComesAheadOfFull() {
        refusedOn(Edges::fullDesk, "type", BAD, numbers(-1, 256, LEAST, MOST), LinkChances::type);
    }

    static void promise22_roomAgainBehindWipe() {
        LinkChances x = fullDesk();
        due("type", x.type('a'), FULL);
        x.wipe();
        for (int i = 1; i <= 60; i++) due("type", x.type('a'), i);
        due("type", x.type('a'), FULL);
    }

    static void promise22_itComesBehindWhatIsThere() {
        LinkChances x = Check.bridge();
        due("up1", Check.tell(x, "up1"), 1);
        due("type", x.type(';'), 4);
        due("obey(), with an empty one behind", x.obey(), -101);
        for (char c : "up2".toCharArray()) x.type(c);
        due("obey()", x.obey(), 2);
        due("SEEN", x.info(2, 4), 1);
    }

    // ---- promise 23: wipe

    static void promise23_noneOneAndSixty() {
        LinkChances x = new LinkChances();
        due("wipe() of none", x.wipe(), 0);
        x.type(0);
        due("wipe() of one", x.wipe(), 1);
        due("wipe() again", x.wipe(), 0);
        tellOnly(x, times("z", 60));
        due("wipe() of sixty", x.wipe(), 60);
        due("bytes", x.count(7), 0);
        due("wipe() again", x.wipe(), 0);
    }

    static void promise23_behindARefusedByte() {
        LinkChances x = fullDesk();
        x.type('a');
        x.type(256);
        due("wipe()", x.wipe(), 60);
    }

    static void promise23_nothingIsLeftToObey() {
        LinkChances x = Check.bridge();
        tellOnly(x, "up1;up2");
        x.wipe();
        due("obey()", x.obey(), 0);
        due("SEEN", x.info(1, 4), 0);
        tellOnly(x, "up2");
        due("obey()", x.obey(), 1);
        due("SEEN of the one that was wiped", x.info(1, 4), 0);
        due("SEEN", x.info(2, 4), 1);
    }

    static void promise23_aNewTextThatIsShorter() {
        LinkChances x = Check.bridge();
        tellOnly(x, "goal1;goal2");
        x.wipe();
        tellOnly(x, "all");
        due("obey()", x.obey(), 1);
        due("goals", x.count(3), 15);
    }

    static void promise23_allElseStays() {
        LinkChances x = busyDesk();
        due("wipe()", x.wipe(), 13);
        int[] counts = {5, 6, 1, 20, 3, 4};
        for (int what = 0; what < counts.length; what++) due("count(" + what + ")", x.count(what), counts[what]);
        due("wrong()", x.wrong(), 3);
        due("finding", x.count(8), 2);
        due("SEEN", x.info(1, 4), 1);
        due("get(0, 7)", x.get(0, 7), 9);
    }

    // ---- promise 24: obey, what is right

    static void promise24_anEmptyTextHasNone() {
        due("of a new object", new LinkChances().obey(), 0);
        LinkChances x = busyDesk();
        x.wipe();
        due("of a busy one", x.obey(), 0);
        due("SEEN stays", x.info(1, 4), 1);
        due("goals stay", x.count(3), 20);
        due("source stays", x.count(2), 1);
    }

    static void promise24_theFirstAndTheLastOfTenLinks() {
        LinkChances x = tenLinks();
        due("up0;down9", Check.tell(x, "up0;down9"), 2);
        for (int k = 0; k < 10; k++) due("SEEN of " + k, x.info(k, 4), k == 0 ? 1 : k == 9 ? 2 : 0);
        due("down0;free9", Check.tell(x, "down0;free9"), 2);
        for (int k = 0; k < 10; k++) due("SEEN of " + k, x.info(k, 4), k == 0 ? 2 : 0);
        due("free0;up9", Check.tell(x, "free0;up9"), 2);
        for (int k = 0; k < 10; k++) due("SEEN of " + k, x.info(k, 4), k == 9 ? 1 : 0);
    }

    static void promise24_eachLinkByItsFigure() {
        for (int k = 0; k < 10; k++) {
            LinkChances x = tenLinks();
            due("down" + k, Check.tell(x, "down" + k), 1);
            for (int i = 0; i < 10; i++) due("SEEN of " + i, x.info(i, 4), i == k ? 2 : 0);
        }
    }

    static void promise24_eachStationByItsFigure() {
        for (int n = 2; n <= 7; n++) {
            for (int v = 0; v < n; v++) {
                LinkChances x = new LinkChances();
                x.stations(n);
                due("goal" + v, Check.tell(x, "goal" + v), 1);
                due("goals", x.count(3), 1 << v);
                due("from" + v, Check.tell(x, "from" + v), 1);
                due("source", x.count(2), v);
                due("goals stay", x.count(3), 1 << v);
            }
        }
    }

    static void promise24_allAndNone() {
        for (int n = 2; n <= 7; n++) {
            LinkChances x = new LinkChances();
            x.stations(n);
            for (int i = 0; i < 2; i++) due("all", Check.tell(x, "all"), 1);
            due("goals", x.count(3), (1 << n) - 1);
            due("the source stays", x.count(2), 0);
            for (int i = 0; i < 2; i++) due("none", Check.tell(x, "none"), 1);
            due("goals", x.count(3), 0);
        }
    }

    static void promise24_aGoalAndNoneAnyMore() {
        LinkChances x = Check.bridge();
        due("goal3", Check.tell(x, "goal3"), 1);
        due("none any more", x.count(3), 0);
        due("obey() again", x.obey(), 1);
        due("a goal again", x.count(3), 8);
        due("twice in one text", Check.tell(x, "goal0;goal0"), 2);
        due("as it was", x.count(3), 8);
        due("thrice in one text", Check.tell(x, "goal0;goal0;goal0"), 3);
        due("another one", x.count(3), 9);
        due("the source", x.count(2), 0);
    }

    static void promise24_oneBehindAnother() {
        LinkChances x = Check.bridge();
        due("of the same link", Check.tell(x, "up1;down1;free1;down1"), 4);
        due("the last counts", x.info(1, 4), 2);
        due("of the source", Check.tell(x, "from1;from3;from2"), 3);
        due("the last counts", x.count(2), 2);
        due("of the goals", Check.tell(x, "goal1;none;goal2;all;goal0"), 5);
        due("in their order", x.count(3), 14);
    }

    static void promise24_sixtyBytes() {
        LinkChances x = tenLinks();
        due("fifteen of them", Check.tell(x, times("up0;", 14) + "none"), 15);
        due("bytes", x.count(7), 60);
        due("SEEN", x.info(0, 4), 1);
        due("the last does something", Check.tell(x, times("none;", 11) + "goal6"), 12);
        due("bytes", x.count(7), 60);
        due("goals", x.count(3), 64);
        LinkChances y = fullDesk();
        due("a full desk", y.obey(), 11);
        due("goals", y.count(3), 31);
        due("source", y.count(2), 5);
        due("SEEN of 9", y.info(9, 4), 1);
        due("SEEN of 8", y.info(8, 4), 2);
        due("SEEN of 7", y.info(7, 4), 0);
        due("SEEN of 0 stays", y.info(0, 4), 1);
    }

    static void promise24_theTextStays() {
        LinkChances x = Check.bridge();
        tellOnly(x, "all;from1");
        for (int i = 0; i < 3; i++) {
            due("obey()", x.obey(), 2);
            due("bytes", x.count(7), 9);
        }
        tellOnly(x, "all;from9");
        for (int i = 0; i < 3; i++) {
            due("obey(), which is wrong", x.obey(), -101);
            due("bytes", x.count(7), 9);
        }
    }

    static void promise24_findingsStay() {
        LinkChances x = busyDesk();
        due("a right one", Check.tell(x, "all"), 1);
        due("finding", x.count(8), 2);
        due("a wrong one", Check.tell(x, "al"), -100);
        due("finding", x.count(8), 2);
    }

    // ---- promise 24: what is wrong. All is as it was ahead of it; that wrong() is the same, the desk was wrong alike before

    private static LinkChances wrongAlike(String text, int by) {
        LinkChances x = busyDesk();
        Check.tell(x, by == 1 ? "q" : by == 2 ? "up" : "from9");
        tellOnly(x, text);
        return x;
    }

    private static void wrong(String text, int number, int by) {
        refusedOn(() -> wrongAlike(text, by), "obey() of " + text, -100 - number, LinkChances::obey);
        due("wrong() of " + text, by(text), by);
    }

    /** What it is wrong by on a desk that was right before. */
    private static int by(String text) {
        LinkChances x = busyDesk();
        Check.tell(x, "up0");
        tellOnly(x, text);
        x.obey();
        return x.wrong();
    }

    static void promise24_anEmptyOrder() {
        wrong(";", 0, 1);
        wrong(";;", 0, 1);
        wrong(times(";", 60), 0, 1);
        wrong(";up0", 0, 1);
        wrong(";;up0", 0, 1);
        wrong("up0;", 1, 1);
        wrong("up0;;", 1, 1);
        wrong("up0;;up1", 1, 1);
        wrong("all;none;up0;;from2", 3, 1);
        wrong("all;none;up0;from2;", 4, 1);
    }

    static void promise24_theGreatestNumberOfAWrongOne() {
        wrong(times("up0;", 15), 15, 1);
        wrong(times("all;", 15), 15, 1);
        wrong(times("up0;", 14) + "nono", 14, 1);
        wrong(times("up0;", 14) + "all5", 14, 2);
        wrong(times("up0;", 14) + "up6", 14, 3);
    }

    static void promise24_theFirstWrongOneIsTold() {
        wrong("up6;up;x", 0, 3);
        wrong("up0;up;x;up6", 1, 2);
        wrong("up0;up1;x;up6;up", 2, 1);
        wrong("x;;", 0, 1);
        wrong("up0;x;up6", 1, 1);
    }

    static void promise24_allThatWasDoneIsUndone() {
        String[] ahead = {"up0", "down0", "free1", "goal0", "goal2", "from4", "all", "none"};
        for (String order : ahead) {
            wrong(order + ";x", 1, 1);
            wrong(order + ";up", 1, 2);
            wrong(order + ";up9", 1, 3);
        }
        wrong("up0;down1;free4;goal0;goal2;from4;all;none;goal3;up9", 9, 3);
        wrong("up0;down1;free4;goal0;goal2;from4;all;none;goal3;;", 9, 1);
    }

    static void promise24_aWordThatIsNone() {
        for (String word : WITH_FIGURE) {
            wrong(word.substring(0, word.length() - 1) + "0", 0, 1);
            wrong(word.substring(1) + "0", 0, 1);
            wrong("x" + word.substring(1) + "0", 0, 1);
            wrong(word.substring(0, word.length() - 1) + "x0", 0, 1);
            wrong(word + word + "0", 0, 1);
            wrong(word + "s0", 0, 1);
            wrong("a" + word + "0", 0, 1);
            wrong(word + "a", 0, 1);
            wrong(word + "z", 0, 1);
        }
        for (String word : ALONE) {
            wrong(word.substring(0, word.length() - 1), 0, 1);
            wrong(word.substring(1), 0, 1);
            wrong("x" + word.substring(1), 0, 1);
            wrong(word.substring(0, word.length() - 1) + "x", 0, 1);
            wrong(word + word, 0, 1);
            wrong(word + "a", 0, 1);
            wrong(word + "z", 0, 1);
            wrong("z" + word, 0, 1);
        }
        for (String text : new String[] {"a", "z", "q", "upp", "upall", "allup0", "upup", "reach0", times("z", 60), times("up", 30)}) {
            wrong(text, 0, 1);
        }
    }

    static void promise24_noWordAtAll() {
        String[] all = {"0", "9", "01", " ", " up0", "Up0", "UP0", "ALL", "None", "`up0", "{up0", "@", "[", "/", ":", "\u0000", "\u0000up0", "\u00ff", "-",
            "\nall", "A", "Z", "\u00e4", "1up", "0all"};
        for (String text : all) wrong(text, 0, 1);
    }

    static void promise24_aWordEndsAheadOfAAndBehindZ() {
        // the bytes just beside a and z are no letters: the word is right, what is behind it is wrong
        wrong("all`", 0, 2);
        wrong("all{", 0, 2);
        wrong("up`0", 0, 2);
        wrong("up{0", 0, 2);
        wrong("allA", 0, 2);
        wrong("allZ", 0, 2);
        wrong("al`l", 0, 1);
        wrong("al{l", 0, 1);
    }

    static void promise24_noFigureAlone() {
        for (String word : WITH_FIGURE) {
            for (String rest : new String[] {"", " ", "/", ":", "-", "A", "/0", ":0", "0/", "0:", "00", "01", "10", "0 ", " 0", "0a", "0up0", "-1", "+1", "99",
                "\u0000", "0\u0000", "\u00000", "\u00ff", "\u00b2", "000", "0.", "0,1", "0up"}) {
                wrong(word + rest, 0, 2);
            }
        }
    }

    static void promise24_somethingBehindAllAndNone() {
        for (String word : ALONE) {
            for (String rest : new String[] {"0", "9", " ", "/", ":", "00", "0a", "\u0000", "\u00ff", ",", " ;", "1;x"}) wrong(word + rest, 0, 2);
        }
        wrong("all none", 0, 2);
    }

    static void promise24_whatIsBehindComesAheadOfNoSuch() {
        wrong("up99", 0, 2);
        wrong("up9 ", 0, 2);
        wrong("goal77", 0, 2);
        wrong("from9x", 0, 2);
        wrong("upp9", 0, 1);
        wrong("all9", 0, 2);
    }

    static void promise24_noSuchLink() {
        for (String word : new String[] {"up", "down", "free"}) {
            for (int k = 6; k <= 9; k++) wrong(word + k, 0, 3);
            due(word + "5, the last", Check.tell(busyDesk(), word + "5"), 1);
            due(word + "9, the last of ten", Check.tell(tenLinks(), word + "9"), 1);
            LinkChances none = new LinkChances();
            due(word + "0 without links", Check.tell(none, word + "0"), -100);
            due("wrong()", none.wrong(), 3);
        }
    }

    static void promise24_noSuchStation() {
        for (String word : new String[] {"goal", "from"}) {
            for (int v = 5; v <= 9; v++) wrong(word + v, 0, 3);
            due(word + "4, the last", Check.tell(busyDesk(), word + "4"), 1);
            LinkChances seven = tenLinks();
            due(word + "6, the last of seven", Check.tell(seven, word + "6"), 1);
            due(word + "7", Check.tell(seven, word + "7"), -100);
            due("wrong()", seven.wrong(), 3);
            due(word + "9", Check.tell(seven, word + "9"), -100);
        }
    }

    static void promise24_linksAndStationsAreNotTakenForEachOther() {
        // ten links and two stations; one link and seven stations
        LinkChances x = Check.net(2);
        for (int k = 0; k < 10; k++) x.link(0, 1, 1, 2);
        due("up9", Check.tell(x, "up9"), 1);
        due("goal2", Check.tell(x, "goal2"), -100);
        due("from2", Check.tell(x, "from2"), -100);
        due("wrong()", x.wrong(), 3);
        LinkChances y = Check.net(7, Check.l(0, 1, 1, 2));
        due("goal6", Check.tell(y, "goal6"), 1);
        due("from6", Check.tell(y, "from6"), 1);
        due("up1", Check.tell(y, "up1"), -100);
        due("free1", Check.tell(y, "free1"), -100);
        due("wrong()", y.wrong(), 3);
    }

    // ---- promise 25: wrong

    static void promise25_noObeyYet() {
        due("of a new object", new LinkChances().wrong(), 0);
        LinkChances x = Check.bridge();
        tellOnly(x, "what");
        due("ahead of obey()", x.wrong(), 0);
        x.wipe();
        due("of a wiped text", x.wrong(), 0);
    }

    static void promise25_byNothing() {
        for (int by = 1; by <= 3; by++) {
            LinkChances x = wrongAlike("up0", by);
            due("ahead of it", x.wrong(), by);
            due("obey()", x.obey(), 1);
            due("behind it", x.wrong(), 0);
        }
    }

    static void promise25_ofAnEmptyTextByNothing() {
        for (int by = 1; by <= 3; by++) {
            LinkChances x = wrongAlike("", by);
            due("ahead of it", x.wrong(), by);
            due("obey()", x.obey(), 0);
            due("behind it", x.wrong(), 0);
        }
    }

    static void promise25_eachBehindEach() {
        String[] texts = {"all", "x", "up", "up9"};
        for (int first = 0; first < 4; first++) {
            for (int next = 0; next < 4; next++) {
                LinkChances x = Check.bridge();
                Check.tell(x, texts[first]);
                due("wrong()", x.wrong(), first);
                Check.tell(x, texts[next]);
                due("wrong() behind it", x.wrong(), next);
            }
        }
    }

    static void promise25_whateverWasDoneSince() {
        for (int by = 1; by <= 3; by++) {
            LinkChances x = wrongAlike("up0", by);
            x.wipe();
            x.type('a');
            x.type(256);
            x.see(0, 2);
            x.link(0, 1, 1, 1);
            x.back();
            x.chance(0, 1, 1);
            x.source(0);
            x.goals(1);
            x.sheet(0, -1);
            x.read(0);
            x.write(0);
            x.reach(0);
            x.digest();
            x.stations(9);
            due("wrong()", x.wrong(), by);
            x.stations(7);
            due("wrong() behind stations()", x.wrong(), by);
            due("wrong() again", x.wrong(), by);
        }
    }

    static void promise25_changesNothing() {
        leavesNothing(Edges::busyDesk, "wrong()", LinkChances::wrong);
        leavesNothing(Edges::fullDesk, "wrong()", LinkChances::wrong);
    }
}
