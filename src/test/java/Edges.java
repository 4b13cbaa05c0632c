import java.lang.reflect.Method;
import java.util.ArrayList;
import java.util.List;
import java.util.TreeMap;

/**
 * What the tests of boundary cases share. Each test is a method of its own, whose name tells the promise and
 * the case; it is told by that name when an answer is not as due. A refused call is always made on a desk that
 * has a twin: behind the call nothing that the desk answers may differ from what the twin answers.
 */
abstract class Edges {
    interface Call {
        long on(LinkChances x);
    }

    interface NumberCall {
        long on(LinkChances x, int number);
    }

    interface Maker {
        LinkChances make();
    }

    static final int LEAST = Integer.MIN_VALUE, MOST = Integer.MAX_VALUE;
    static final int NONE = -1, BAD = -2, NOT = -3, FULL = -4, NULL = -11, INDEX = -12, SIZE = -13;
    static final long LONG_BAD = Check.LONG_BAD, LONG_OVER = Check.LONG_OVER;
    static final long LONG_NULL = Check.LONG_NULL, LONG_INDEX = Check.LONG_INDEX;

    private static final String NAME = "promise\\d\\d_\\w+";

    private static Check check;
    private static String test;
    private static int answers;

    /** Runs the tests of a class, and asks that each promise from first to last has one, and each test an answer. */
    static void run(Class<? extends Edges> tests, int first, int last) {
        check = new Check(tests.getSimpleName());
        TreeMap<String, Method> found = new TreeMap<>();
        for (Method method : tests.getDeclaredMethods()) {
            if (method.getName().matches(NAME)) found.put(method.getName(), method);
        }
        for (Method method : found.values()) runOne(method);
        for (int promise = first; promise <= last; promise++) {
            String name = String.format("promise%02d_", promise);
            boolean any = found.keySet().stream().anyMatch(told -> told.startsWith(name));
            check.due(name + " has a test", any ? 1 : 0, 1);
        }
        System.out.println(tests.getSimpleName() + ": " + found.size() + " tests");
        check.end();
    }

    private static void runOne(Method method) {
        test = method.getName();
        answers = 0;
        try {
            method.setAccessible(true);
            method.invoke(null);
        } catch (ReflectiveOperationException e) {
            check.due(test + " threw " + (e.getCause() == null ? e : e.getCause()), 1, 0);
        }
        check.due(test + " looks at some answer", answers > 0 ? 1 : 0, 1);
    }

    // ---- answers

    static void due(String call, long got, long want) {
        answers++;
        check.due(test, call, got, want);
    }

    static void fraction(String call, long above, long below, long wantAbove, long wantBelow) {
        due(call + " above", above, wantAbove);
        due(call + " below", below, wantBelow);
    }

    static void reach(String of, LinkChances x, long above, long below) {
        fraction("reach of " + of, x.reach(0), x.reach(1), above, below);
    }

    static void differ(String call, long got, long other) {
        answers++;
        check.due(test, call + " differs", got != other ? 1 : 0, 1);
    }

    static long lowest(long above, long below, int what) {
        long a = above, b = below;
        while (b != 0) {
            long rest = a % b;
            a = b;
            b = rest;
        }
        return (what == 0 ? above : below) / a;
    }

    static int[] numbers(int... all) {
        return all;
    }

    // ---- refusals

    /** On every desk. */
    static void refused(String call, long answer, Call asked) {
        refusedOn(LinkChances::new, call + " on a new desk", answer, asked);
        refusedOn(Edges::busyDesk, call + " on a busy desk", answer, asked);
        refusedOn(Edges::fullDesk, call + " on a full desk", answer, asked);
    }

    /** On every desk, with each of the numbers. */
    static void refused(String call, long answer, int[] numbers, NumberCall asked) {
        for (int number : numbers) refused(call + " with " + number, answer, x -> asked.on(x, number));
    }

    static void refusedOn(Maker desk, String call, long answer, int[] numbers, NumberCall asked) {
        for (int number : numbers) refusedOn(desk, call + " with " + number, answer, x -> asked.on(x, number));
    }

    static void refusedOn(Maker desk, String call, long answer, Call asked) {
        LinkChances x = desk.make(), twin = desk.make();
        due(call, asked.on(x), answer);
        int finding = findingOf(answer);
        due(call + ", count(8) behind it", x.count(8), finding == 0 ? twin.count(8) : finding);
        sameAsTwin(call, x, twin);
    }

    /** The same for a call that is no refusal, but must leave nothing behind. */
    static void leavesNothing(Maker desk, String call, Call asked) {
        LinkChances x = desk.make(), twin = desk.make();
        asked.on(x);
        due(call + ", count(8) behind it", x.count(8), twin.count(8));
        sameAsTwin(call, x, twin);
    }

    private static int findingOf(long answer) {
        long refusal = answer < LEAST ? Long.MIN_VALUE - answer : answer;
        return refusal <= -11 && refusal >= -13 ? (int) (-10 - refusal) : 0;
    }

    static void sameAsTwin(String call, LinkChances x, LinkChances twin) {
        List<Long> told = allTold(x), due = allTold(twin);
        due(call + ", how much is told behind it", told.size(), due.size());
        for (int i = 0; i < told.size() && i < due.size(); i++) {
            due(call + ", answer " + i + " behind it", told.get(i), due.get(i));
        }
    }

    /** All that later calls can tell but count(8); the last of these calls change the desk. */
    private static List<Long> allTold(LinkChances x) {
        List<Long> told = new ArrayList<>();
        for (int what = 0; what < 8; what++) told.add((long) x.count(what));
        for (int k = 0; k < 10; k++) {
            for (int what = 0; what < 5; what++) told.add((long) x.info(k, what));
        }
        told.add(x.digest());
        told.add((long) x.wrong());
        for (int s = 0; s < 3; s++) {
            for (int i = 0; i <= 40; i++) told.add(x.get(s, i));
        }
        told.add((long) x.type('m'));
        told.add((long) x.type('2'));
        told.add((long) x.obey());
        told.add((long) x.wrong());
        told.add((long) x.wipe());
        told.add(x.digest());
        told.add((long) x.read(0));
        told.add((long) x.back());
        told.add(x.digest());
        for (int s = 0; s < 3; s++) told.add((long) x.lose(s));
        return told;
    }

    // ---- desks

    /** Five stations, six links, some seen; a text that lacks its last bytes; one sheet lost, one without items. */
    static LinkChances busyDesk() {
        LinkChances x = Check.net(5, Check.l(0, 1, 1, 2), Check.l(1, 2, 2, 3), Check.l(4, 2, 0, 7), Check.l(0, 3, 9, 9),
            Check.l(3, 4, 2, 4), Check.l(0, 1, 1, 3));
        x.see(1, 1);
        x.see(4, 2);
        x.source(1);
        x.goals(20);
        Check.tell(x, "up0;goal3;from9");
        tellOnly(x, "up0;goal3;fro");
        Check.fill(x, 0, 0, 1, 1, 2, 4, 3, 8, 9, 2, 2, 1, 1);
        x.sheet(1, 0);
        x.get(1, 0);
        return x;
    }

    /** Seven stations, ten links, all goals, sixty bytes, three sheets of forty. */
    static LinkChances fullDesk() {
        LinkChances x = tenLinks();
        x.goals(127);
        x.source(6);
        x.see(0, 1);
        x.see(9, 2);
        tellOnly(x, "all;none;goal0;goal1;goal2;goal3;goal4;up9;down8;free7;from5");
        for (int s = 0; s < 3; s++) {
            x.sheet(s, 40);
            for (int i = 0; i < 40; i += 3) x.lay(s, i, 100 * s + i + 1);
        }
        x.sheet(0, -1);
        return x;
    }

    /** Seven stations in a ring, with three links across; nothing is a goal. */
    static LinkChances tenLinks() {
        return Check.net(7, Check.l(0, 1, 1, 2), Check.l(1, 2, 2, 3), Check.l(2, 3, 3, 4), Check.l(3, 4, 4, 5), Check.l(4, 5, 5, 6),
            Check.l(5, 6, 6, 7), Check.l(6, 0, 7, 8), Check.l(0, 3, 8, 9), Check.l(1, 4, 1, 9), Check.l(2, 5, 2, 9));
    }

    /** Links beside each other between 0 and 1, each with the chance p by q; 1 is the goal. */
    static LinkChances beside(int links, int p, int q) {
        LinkChances x = new LinkChances();
        for (int k = 0; k < links; k++) x.link(0, 1, p, q);
        x.goals(2);
        return x;
    }

    /** Links one behind another from 0 on, each with the chance p by q; the last station is the goal. */
    static LinkChances row(int links, int p, int q) {
        LinkChances x = new LinkChances();
        x.stations(Math.max(2, links + 1));
        for (int k = 0; k < links; k++) x.link(k, k + 1, p, q);
        x.goals(1 << links);
        return x;
    }

    static void tellOnly(LinkChances x, String text) {
        x.wipe();
        for (int i = 0; i < text.length(); i++) x.type(text.charAt(i));
    }
}
