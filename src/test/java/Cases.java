import java.lang.reflect.InvocationTargetException;
import java.lang.reflect.Method;
import java.lang.reflect.Modifier;
import java.util.ArrayList;
import java.util.Arrays;
import java.util.Comparator;
import java.util.List;
import java.util.function.Supplier;
import java.util.function.ToLongFunction;

/**
 * What the tests by promise have in common. Each of their methods without
 * arguments that is not private is a test of one sentence of the document: run
 * finds them, so that none is left out, and one that compares nothing is wrong.
 */
abstract class Cases {
    static final int NONE = LooseEnds.NONE;
    static final int HIDDEN = LooseEnds.HIDDEN;
    static final int LEAST = Integer.MIN_VALUE;
    static final int MOST = Integer.MAX_VALUE;
    /** What a refused call counts that is no ACT. */
    static final int NO_STATUS = -1;
    private static String test = "";
    private static int compared;

    // ---- running

    static void run(Class<?> tests) {
        Method[] all = tests.getDeclaredMethods();
        Arrays.sort(all, Comparator.comparing(Method::getName));
        int many = 0;
        for (Method one : all) {
            if (isTest(one)) {
                runOne(tests, one);
                many++;
            }
        }
        Desk.due(tests.getSimpleName() + " has tests", many > 0, true);
        Desk.finish(tests.getSimpleName());
    }

    private static boolean isTest(Method one) {
        return Modifier.isStatic(one.getModifiers()) && !Modifier.isPrivate(one.getModifiers())
            && one.getReturnType() == void.class && one.getParameterCount() == 0;
    }

    private static void runOne(Class<?> tests, Method one) {
        test = tests.getSimpleName() + "." + one.getName() + ": ";
        compared = 0;
        try {
            one.invoke(null);
        } catch (InvocationTargetException e) {
            Desk.due(test + "threw " + e.getCause(), true, false);
        } catch (IllegalAccessException e) {
            Desk.due(test + "can't be called", true, false);
        }
        Desk.due(test + "compares something", compared > 0, true);
    }

    static void due(String what, long got, long want) {
        compared++;
        Desk.due(test + what, got, want);
    }

    static void due(String what, boolean got, boolean want) {
        due(what, got ? 1 : 0, want ? 1 : 0);
    }

    static void status(LooseEnds x, int... want) {
        for (int what = 0; what < want.length; what++) {
            due("status(" + what + ")", x.status(what), want[what]);
        }
    }

    /** COLOUR, PLY, LENGTH, whether SOLD, behind, ahead of an END. */
    static void thread(LooseEnds x, int end, int... want) {
        for (int what = 0; what < want.length; what++) {
            due("thread(" + end + ", " + what + ")", x.thread(end, what), want[what]);
        }
    }

    // ---- a refused call

    /**
     * Two objects are made alike and one of them is asked what is refused: it
     * has counted that in its STATUS (or nothing), and all else of the two is
     * alike, now, when the latest ACT is UNDONE, and when the IMAGE is BACK.
     */
    static void refused(Supplier<LooseEnds> scene, ToLongFunction<LooseEnds> call, long answer, int kind) {
        LooseEnds x = scene.get();
        LooseEnds y = scene.get();
        due("the answer", call.applyAsLong(x), answer);
        for (int what = 0; what < 5; what++) {
            due("STATUS " + what, x.status(what), y.status(what) + (what == kind ? 1 : 0));
        }
        same("refused", x, y);
        due("refused, undo()", x.undo(), y.undo());
        same("refused and UNDONE", x, y);
        due("refused, back()", x.back(), y.back());
        same("refused and BACK", x, y);
    }

    /** All that can be told of two objects is alike but their STATUS. */
    static void same(String when, LooseEnds x, LooseEnds y) {
        List<String> names = new ArrayList<>();
        int[] first = look(x, names);
        int[] second = look(y, new ArrayList<>());
        due(when + ": as much to tell", first.length, second.length);
        for (int i = 0; i < first.length && i < second.length; i++) {
            due(when + ": " + names.get(i), first[i], second[i]);
        }
    }

    private static int[] look(LooseEnds x, List<String> names) {
        List<Integer> seen = new ArrayList<>();
        for (int what = 0; what < 10; what++) {
            names.add("count(" + what + ")");
            seen.add(x.count(what));
        }
        for (int what = 0; what < 4; what++) {
            names.add("rule(" + what + ")");
            seen.add(x.rule(what));
        }
        for (int sort = 0; sort < 2; sort++) {
            names.add("fault(" + sort + ")");
            seen.add(x.fault(sort));
        }
        for (int i = 0; i < 9; i++) {
            names.add("log(" + i / 3 + ", " + i % 3 + ")");
            seen.add(x.log(i / 3, i % 3));
        }
        for (int end = 0; end < x.count(0); end++) {
            for (int what = 0; what < 6; what++) {
                names.add("thread(" + end + ", " + what + ")");
                seen.add(x.thread(end, what));
            }
            names.add("plies(" + end + ", NONE)");
            seen.add(x.plies(end, NONE));
        }
        return seen.stream().mapToInt(Integer::intValue).toArray();
    }

    // ---- scenes

    static LooseEnds mill(String text) {
        return Desk.mill(text);
    }

    /** So many ENDS without ITEMS, behind RULES (none: no text). */
    static LooseEnds alike(int ends, String rules) {
        return mill((rules.isEmpty() ? "" : rules + ";") + "t;".repeat(ends - 1) + "t");
    }

    /** Each is KNOTTED with the next one. */
    static void knot(LooseEnds x, int... ends) {
        for (int i = 0; i + 1 < ends.length; i++) {
            due("attempt(" + ends[i] + ", " + ends[i + 1] + ")", x.attempt(ends[i], ends[i + 1]), 1);
        }
    }

    /** ENDS without ITEMS, all in one TALE, the first one ahead; nothing FADES. */
    static LooseEnds oneTale(int ends) {
        LooseEnds x = alike(ends, "sf0g9");
        for (int end = 0; end + 1 < ends; end++) {
            knot(x, end, end + 1);
        }
        return x;
    }

    /** As oneTale, and everything SOLD. */
    static LooseEnds allSold(int ends) {
        LooseEnds x = oneTale(ends);
        x.sell(0);
        return x;
    }

    static void pass(LooseEnds x, int days) {
        for (int left = days; left > 0; left -= 60) {
            x.days(Math.min(60, left));
        }
    }

    /** A MILL on a DAY. */
    static LooseEnds on(int day, String text) {
        LooseEnds x = mill(text);
        pass(x, day);
        due("the DAY", x.count(4), day);
        return x;
    }

    /** ENDS (as told) with so many COINS, 99 at least. */
    static LooseEnds rich(int coins, String ends) {
        LooseEnds x = mill("sk99;" + ends);
        for (int have = 99; have < coins; ) {
            have = x.give(Math.min(50, coins - have));
        }
        due("COINS", x.rule(3), coins);
        return x;
    }

    /**
     * Something of all there is: 0 and 1 are a TALE, 2 and 3 a SOLD one, 4
     * (COLOUR 11), 5 and 6 are LOOSE, one of three GIRLS has run, DAY 1, 41
     * COINS, two LAWS of which none holds, two SEEN, an IMAGE, a TAPE.
     */
    static LooseEnds busy() {
        LooseEnds x = new LooseEnds();
        Desk.addLaw(x, "y:1");
        Desk.addLaw(x, "y:0");
        Desk.tell(x, "sf1g3k30;tl5;tl6;tl7;tl8;tl9;tc20l2;tc0p6l1");
        x.seen(0, 1, true);
        x.seen(2, 5, false);
        x.attempt(0, 1);
        x.days(1);
        x.attempt(2, 3);
        x.sell(2);
        x.image();
        x.give(5);
        x.dye(4, 11);
        Desk.feed(x, "t;t?");
        return x;
    }

    /** As busy, and no GIRL is left. */
    static LooseEnds noGirl() {
        LooseEnds x = busy();
        x.attempt(5, 6);
        x.attempt(6, 5);
        return x;
    }

    static boolean throwsNoSuch(LooseEnds x, int end, int what) {
        return Desk.throwsNoSuch(x, end, what);
    }
}
