import java.util.List;
import java.util.Random;

/** All promises: random runs of calls, each answer compared with what the Oracle finds. */
public final class OracleTest {
    private static final int RUNS = 700;
    private static final int CALLS = 400;
    private static LooseEnds x;
    private static Oracle o;
    private static Random random;
    private static String run;

    public static void main(String[] args) {
        int runs = args.length > 0 ? Integer.parseInt(args[0]) : RUNS;
        int seed = args.length > 1 ? Integer.parseInt(args[1]) : 0;
        for (int i = 0; i < runs && !Desk.isWrong(); i++) {
            random = new Random(seed + i);
            run = "run " + (seed + i);
            x = new LooseEnds();
            o = new Oracle();
            begin();
            for (int k = 0; k < CALLS && !Desk.isWrong(); k++) {
                call(random.nextInt(100));
                if (k % 40 == 0) {
                    compareAll();
                }
            }
            compareAll();
        }
        Desk.finish("OracleTest");
    }

    private static void begin() {
        if (random.nextInt(10) == 0) {
            for (int k = 0; k < 10; k++) {
                call(random.nextInt(100));
            }
        }
        for (int k = random.nextInt(4); k > 0; k--) {
            law();
        }
        mill();
        if (!o.laws.isEmpty() && random.nextInt(3) > 0) {
            hold(random.nextInt(o.laws.size()));
        }
    }

    private static void due(String call, long got, long want) {
        Desk.due(run + ": " + call, got, want);
    }

    private static int end() {
        return random.nextInt(25) == 0 ? random.nextInt(12) - 3 : random.nextInt(Math.max(1, o.ends));
    }

    private static int what(int most) {
        return random.nextInt(15) == 0 ? random.nextInt(20) - 5 : random.nextInt(most + 1);
    }

    private static void mill() {
        String text = Texts.mill(random);
        Desk.feed(x, text);
        o.tellMill(text);
        due("text(0)", x.text(0), o.ends);
    }

    private static void law() {
        String text = Texts.law(random);
        if (o.laws.size() < 4) {
            Desk.feed(x, text);
            due("text(1)", x.text(1), o.laws.size());
            o.laws.add(text);
        }
    }

    private static void hold(int law) {
        boolean can = law >= -1 && law < o.laws.size();
        Desk.due(run + ": law(" + law + ")", x.law(law), can);
        o.holds = can ? law : o.holds;
    }

    private static void call(int kind) {
        if (kind < 60) {
            act(kind);
        } else {
            query(kind - 60);
        }
    }

    private static void act(int kind) {
        int end = end();
        int other = end();
        if (kind < 22) {
            due("attempt(" + end + ", " + other + ")", x.attempt(end, other), o.attempt(end, other));
        } else if (kind < 27) {
            due("pull(" + end + ")", x.pull(end), o.pull(end));
        } else if (kind < 29) {
            due("sell(" + end + ")", x.sell(end), o.sell(end));
        } else if (kind < 34) {
            int colour = what(20);
            due("dye(" + end + ", " + colour + ")", x.dye(end, colour), o.dye(end, colour));
        } else if (kind < 36) {
            int n = what(50);
            due("give(" + n + ")", x.give(n), o.give(n));
        } else if (kind < 40) {
            int n = random.nextInt(5) == 0 ? what(61) : what(3);
            due("days(" + n + ")", x.days(n), o.days(n));
        } else if (kind < 42) {
            int v = what(9);
            Desk.due(run + ": wakes(" + v + ")", x.wakes(v), v >= 0 && v <= 9 && v != o.wakes);
            o.wakes = v >= 0 && v <= 9 ? v : o.wakes;
        } else if (kind < 44) {
            int n = random.nextInt(4) == 0 ? what(61) : what(4);
            long seed = random.nextLong();
            due("years(" + n + ", " + seed + ")", x.years(n, seed), o.years(n, seed));
        } else if (kind < 53) {
            due("undo()", x.undo(), o.undo());
        } else if (kind < 54) {
            due("image()", x.image(), o.takeImage());
        } else if (kind < 55) {
            due("back()", x.back(), o.back());
        } else if (kind < 57) {
            hold(what(Math.max(0, o.laws.size())) - 1);
        } else if (kind < 58) {
            see(end, other, random.nextBoolean());
        } else if (kind < 59) {
            law();
        } else if (random.nextInt(4) == 0) {
            mill();
        }
    }

    private static void see(int one, int other, boolean is) {
        boolean can = o.isEnd(one) && o.isEnd(other) && one != other && o.seen.size() < 10;
        if (can) {
            o.seen.add(new int[] {one, other, is ? 1 : 0});
        }
        due("seen(" + one + ", " + other + ", " + is + ")", x.seen(one, other, is), can ? o.seen.size() : -1);
    }

    private static int at(List<Integer> list, int i) {
        return i == -1 ? list.size() : i >= 0 && i < list.size() ? list.get(i) : -1;
    }

    private static void query(int kind) {
        int end = end();
        int other = end();
        boolean is = o.isEnd(end);
        boolean two = is && o.isEnd(other) && end != other;
        boolean mill = o.ends > 0;
        int what = what(1);
        boolean row = mill && (what == 0 || what == 1);
        int i = what(4) - 1;
        if (kind < 3) {
            due("fits", x.fits(end, other), two ? o.goes(o.w, end, other) ? 1 : 0 : -1);
        } else if (kind < 6) {
            due("could", x.could(end), is ? o.could(end) : -1);
        } else if (kind < 10) {
            due("knots(" + what + ")", x.knots(what), row ? o.knots()[what] : -1);
        } else if (kind < 14) {
            due("tale(" + what + ")", x.tale(what), row ? o.tale()[what] : -1);
        } else if (kind < 18) {
            int n = what(2);
            boolean can = row && (n == 1 || n == 2);
            due("plan(" + n + ", " + what + ")", x.plan(n, what), can ? o.plan(n)[what] : -1);
        } else if (kind < 22) {
            int size = random.nextInt(3) == 0 ? what(141) : what(40);
            boolean can = mill && size >= 1 && size <= 140;
            due("blankets(" + size + ")", x.blankets(size), can ? o.blankets(size) : -1);
        } else if (kind < 25) {
            due("plies(" + end + ", " + i + ")", x.plies(end, i), is ? at(o.plies(end), i) : -1);
        } else if (kind < 28) {
            due("ask(" + end + ")", x.ask(end), is ? o.ask(end) : -1);
        } else if (kind < 31) {
            int a = what(3);
            int b = what(3);
            boolean can = two && a >= 0 && a < 4 && b >= 0 && b < 4 && (what == 0 || what == 1);
            due("game", x.game(end, other, a, b, what), can ? o.game(end, other, a, b, what) : -1000000);
        } else if (kind < 34) {
            due("rests", x.rests(end, other, i), two ? at(o.rests(end, other), i) : -1);
        } else if (kind < 37) {
            int chance = what(100);
            boolean can = is && chance >= 0 && chance <= 100;
            due("odds(" + end + ", " + chance + ")", x.odds(end, chance), can ? o.odds(end, chance) : -1);
        } else if (kind < 38) {
            int c = what(999);
            int all = 0;
            for (int k = 0; k < o.ends; k++) {
                all += o.w.length[k];
            }
            boolean can = is && c >= 0 && c <= 999;
            due("shares", x.shares(end, c), can ? c * o.w.length[end] / all : -1);
        } else {
            int m = what(7);
            due("most(" + m + ")", x.most(m), mill && m >= 0 && m <= 7 ? o.most(m) : -1);
        }
    }

    private static void compareAll() {
        for (int end = 0; end < o.ends; end++) {
            int[] want = {o.w.colour[end], o.toldPly[end], o.w.length[end], o.w.sold.contains(end) ? 1 : 0,
                o.w.behind(end), o.w.ahead(end)};
            for (int what = 0; what < 6; what++) {
                due("thread(" + end + ", " + what + ")", x.thread(end, what), want[what]);
            }
            List<Integer> tale = o.w.tale(end);
            int off = 0;
            off |= want[4] >= 0 ? 1 << want[4] : 0;
            off |= want[5] >= 0 ? 1 << want[5] : 0;
            int[] story = {tale.get(0), tale.get(tale.size() - 1), tale.size(), o.w.lengthOf(tale), want[3] == 1 ? 0 : off};
            for (int what = 0; what < 5; what++) {
                due("story(" + end + ", " + what + ")", x.story(end, what), story[what]);
            }
        }
        for (int i = 0; i < 61; i++) {
            for (int what = 0; what < 3; what++) {
                due("log(" + i + ", " + what + ")", x.log(i, what), i < o.w.log.size() ? o.w.log.get(i)[what] : -1);
            }
        }
        int[] counts = {o.ends, o.laws.size(), 0, o.holds, o.w.day, o.w.tries, o.wakes, o.seen.size(), o.w.log.size(),
            o.past.size()};
        for (int what = 0; what < counts.length; what++) {
            due("count(" + what + ")", x.count(what), counts[what]);
        }
        for (int what = 0; what < 4; what++) {
            int rule = what < 3 ? o.rules[what] : o.w.coins;
            due("rule(" + what + ")", x.rule(what), o.ends > 0 ? rule : -1);
        }
        for (int what = 0; what < 5; what++) {
            due("status(" + what + ")", x.status(what), o.status[what]);
        }
    }
}
