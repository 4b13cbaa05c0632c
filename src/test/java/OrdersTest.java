/** Promises 22 to 25. */
public final class OrdersTest {
    private static final Check check = new Check("OrdersTest");

    public static void main(String[] args) {
        type();
        wipe();
        obey();
        wrongWords();
        wrongRests();
        wrongNumbers();
        allOrNone();
        check.end();
    }

    // promise 22
    private static void type() {
        LinkChances x = new LinkChances();
        for (int b : new int[] {-1, 256, Integer.MIN_VALUE, Integer.MAX_VALUE}) {
            check.due("type(" + b + ")", x.type(b), -2);
            check.due("bytes", x.count(7), 0);
        }
        check.due("type(0)", x.type(0), 1);
        check.due("type(255)", x.type(255), 2);
        for (int i = 3; i <= 60; i++) check.due("type", x.type('a'), i);
        check.due("type too many", x.type('a'), -4);
        check.due("BAD comes ahead of FULL", x.type(256), -2);
        check.due("bytes", x.count(7), 60);
    }

    // promise 23
    private static void wipe() {
        LinkChances x = new LinkChances();
        check.due("wipe() of none", x.wipe(), 0);
        for (int i = 0; i < 60; i++) x.type('a');
        check.due("wipe()", x.wipe(), 60);
        check.due("bytes", x.count(7), 0);
        check.due("obey() of none", x.obey(), 0);
        check.due("type", x.type('x'), 1);
        check.due("wipe() of one", x.wipe(), 1);
    }

    // promise 24: what is right
    private static void obey() {
        LinkChances x = Check.bridge();
        check.due("up3", Check.tell(x, "up3"), 1);
        check.due("seen", x.info(3, 4), 1);
        check.due("down3;up0", Check.tell(x, "down3;up0"), 2);
        check.due("seen", x.info(3, 4), 2);
        check.due("seen", x.info(0, 4), 1);
        check.due("free3;free4", Check.tell(x, "free3;free4"), 2);
        check.due("seen", x.info(3, 4), 0);
        check.due("seen", x.info(0, 4), 1);
        check.due("goal3", Check.tell(x, "goal3"), 1);
        check.due("a goal no more", x.count(3), 0);
        check.due("goal0;goal2", Check.tell(x, "goal0;goal2"), 2);
        check.due("goals", x.count(3), 5);
        check.due("goal2;goal2;goal1", Check.tell(x, "goal2;goal2;goal1"), 3);
        check.due("goals", x.count(3), 7);
        check.due("from3", Check.tell(x, "from3"), 1);
        check.due("source", x.count(2), 3);
        check.due("obey() again, the text stays", x.obey(), 1);
        check.due("bytes", x.count(7), 5);
        check.due("none", Check.tell(x, "none"), 1);
        check.due("goals", x.count(3), 0);
        check.due("all", Check.tell(x, "all"), 1);
        check.due("goals", x.count(3), 15);
        check.due("none;goal1;from0;all;goal1", Check.tell(x, "none;goal1;from0;all;goal1"), 5);
        check.due("goals", x.count(3), 13);
        check.due("source", x.count(2), 0);
        check.due("an empty text", Check.tell(x, ""), 0);
        check.due("sixty bytes", Check.tell(x, "goal1;goal1;goal1;goal1;goal1;goal1;goal1;goal1;goal1;goal11"), -109);
        check.due("sixty bytes", Check.tell(x, "goal1;goal1;goal1;goal1;goal1;goal1;goal1;goal1;none;up1;up2"), 11);
        check.due("bytes of it", x.count(7), 60);
        check.due("seen at the end of it", x.info(2, 4), 1);
        LinkChances y = Check.fullNet();
        check.due("down9", Check.tell(y, "down9"), 1);
        check.due("seen", y.info(9, 4), 2);
        y.stations(7);
        check.due("all;from6;goal6", Check.tell(y, "all;from6;goal6"), 3);
        check.due("goals of seven", y.count(3), 63);
        check.due("source", y.count(2), 6);
    }

    private static void wrong(LinkChances x, String text, int number, int by) {
        long before = state(x);
        check.due("obey() of " + text, Check.tell(x, text), -100 - number);
        check.due("wrong() of " + text, x.wrong(), by);
        check.due("all is as it was behind " + text, state(x), before);
        check.due("no finding behind " + text, x.count(8), 0);
    }

    private static long state(LinkChances x) {
        long h = x.count(2) * 1000 + x.count(3);
        for (int k = 0; k < x.count(1); k++) h = 10 * h + x.info(k, 4);
        return h;
    }

    // promises 24 and 25: wrong by 1
    private static void wrongWords() {
        String[] alone = {"u", "upp1", "p1", "ups", "Up1", "UP1", " up1", "1up", "1", " ", "al", "alls", "nones", "non", "fro1",
            "froma1", "goals1", "goa1", "dow1", "downs1", "fre1", "frees1", "upa", "\u0000", "\u00ff", "{", "`", "uq1", "doxn1",
            "xp1", "xown1", "xree1", "xoal1", "xrom1", "xll", "xone"};
        for (String text : alone) wrong(Check.bridge(), text, 0, 1);
        LinkChances x = Check.bridge();
        wrong(x, ";", 0, 1);
        wrong(x, ";up1", 0, 1);
        wrong(x, "up1;", 1, 1);
        wrong(x, "all;;none", 1, 1);
        wrong(x, "all;none;up1;what1", 3, 1);
    }

    // wrong by 2
    private static void wrongRests() {
        String[] alone = {"up", "down", "free", "goal", "from", "up ", "up 1", "up1 ", "up12", "up01", "upA", "up1a", "up-1", "up/", "up:",
            "goal1.", "from 0", "all1", "all ", "none0", "none.", "allA", "goal99", "up99", "up\u0000", "upA1", "down1\u00ff"};
        for (String text : alone) wrong(Check.bridge(), text, 0, 2);
        LinkChances x = Check.bridge();
        wrong(x, "up1;down", 1, 2);
        wrong(x, "all;none ;up1", 1, 2);
    }

    // wrong by 3
    private static void wrongNumbers() {
        LinkChances x = Check.bridge();
        for (String text : new String[] {"up5", "down9", "free5", "goal4", "from4", "from9", "goal9"}) wrong(x, text, 0, 3);
        wrong(x, "up4;goal3;from3;goal4", 3, 3);
        wrong(x, "free4;free5;what", 1, 3);
        wrong(new LinkChances(), "up0", 0, 3);
    }

    // promise 24: all or none; promise 25: what wrong() remembers
    private static void allOrNone() {
        LinkChances x = Check.bridge();
        check.due("wrong() ahead of all", x.wrong(), 0);
        wrong(x, "up1;down2;free3;all;goal1;from2;none;up7", 7, 3);
        check.due("wrong() stays", x.wrong(), 3);
        x.wipe();
        x.stations(3);
        x.type('a');
        x.link(0, 1, 1, 1);
        check.due("wrong() stays, whatever was done", x.wrong(), 3);
        x.wipe();
        check.due("obey() of none", x.obey(), 0);
        check.due("wrong() by nothing", x.wrong(), 0);
        wrong(x, "q", 0, 1);
        wrong(x, "up", 0, 2);
        check.due("all", Check.tell(x, "all"), 1);
        check.due("wrong() by nothing again", x.wrong(), 0);
    }
}
