import java.util.ArrayDeque;
import java.util.ArrayList;
import java.util.Deque;
import java.util.List;
import java.util.TreeSet;

/**
 * The document once more, as plainly as can be: TALES are lists, ACTS keep whole
 * copies, and what is best is found by going through all there is.
 */
final class Oracle {
    /** All that an IMAGE keeps. */
    static final class World {
        int[] colour;
        int[] length;
        List<List<Integer>> tales = new ArrayList<>();
        TreeSet<Integer> sold = new TreeSet<>();
        int tries;
        int made;
        int coins;
        int day;
        List<int[]> log = new ArrayList<>();

        World copy() {
            World w = new World();
            w.colour = colour.clone();
            w.length = length.clone();
            for (List<Integer> tale : tales) {
                w.tales.add(new ArrayList<>(tale));
            }
            w.sold.addAll(sold);
            w.tries = tries;
            w.made = made;
            w.coins = coins;
            w.day = day;
            w.log.addAll(log);
            return w;
        }

        List<Integer> tale(int end) {
            for (List<Integer> tale : tales) {
                if (tale.contains(end)) {
                    return tale;
                }
            }
            throw new IllegalStateException();
        }

        int behind(int end) {
            List<Integer> tale = tale(end);
            int at = tale.indexOf(end);
            return at + 1 < tale.size() ? tale.get(at + 1) : -1;
        }

        int ahead(int end) {
            List<Integer> tale = tale(end);
            int at = tale.indexOf(end);
            return at > 0 ? tale.get(at - 1) : -1;
        }

        boolean loose(int end) {
            return !sold.contains(end) && tale(end).size() == 1;
        }

        int lengthOf(List<Integer> tale) {
            int sum = 0;
            for (int end : tale) {
                sum += length[end];
            }
            return sum;
        }
    }

    int ends;
    int[] rules = {2, 1, 4, 20};
    int[] toldColour = new int[0];
    int[] toldPly = new int[0];
    int[] toldLength = new int[0];
    List<String> laws = new ArrayList<>();
    int holds = -1;
    World w = new World();
    World image;
    Deque<World> past = new ArrayDeque<>();
    List<int[]> seen = new ArrayList<>();
    int[] status = new int[5];
    int wakes = 1;

    // ---- texts

    void tellMill(String text) {
        String[] clauses = text.replace(" ", "").split(";");
        rules = new int[] {2, 1, 4, 20};
        List<int[]> told = new ArrayList<>();
        for (String clause : clauses) {
            if (clause.charAt(0) == 's') {
                items(clause, "efgk", rules);
            } else {
                int[] one = {10, 2, 5};
                items(clause, "cpl", one);
                told.add(one);
            }
        }
        ends = told.size();
        toldColour = new int[ends];
        toldPly = new int[ends];
        toldLength = new int[ends];
        w = new World();
        for (int i = 0; i < ends; i++) {
            toldColour[i] = told.get(i)[0];
            toldPly[i] = told.get(i)[1];
            toldLength[i] = told.get(i)[2];
            w.tales.add(new ArrayList<>(List.of(i)));
        }
        w.colour = toldColour.clone();
        w.length = toldLength.clone();
        w.coins = rules[3];
        image = null;
        past.clear();
        seen.clear();
    }

    private static void items(String clause, String letters, int[] into) {
        for (int i = 1; i < clause.length(); ) {
            int item = letters.indexOf(clause.charAt(i));
            int to = i + 1;
            while (to < clause.length() && Character.isDigit(clause.charAt(to))) {
                to++;
            }
            into[item] = Integer.parseInt(clause.substring(i + 1, to));
            i = to;
        }
    }

    boolean isEnd(int end) {
        return end >= 0 && end < ends;
    }

    boolean goes(int c, int p, int l, int n, int t) {
        if (holds < 0) {
            return rules[0] + 1 - c - 2 * p > 0;
        }
        return new Law(laws.get(holds), c, p, l, rules[0], n, t).worth() > 0;
    }

    boolean goes(World w, int one, int other, int n) {
        return goes(Math.abs(w.colour[one] - w.colour[other]), Math.abs(toldPly[one] - toldPly[other]),
            w.length[one] + w.length[other], n, w.day);
    }

    boolean goes(World w, int one, int other) {
        return goes(w, one, other, w.tale(one).size());
    }

    // ---- acts

    private int refuse(int kind) {
        status[kind]++;
        return -1;
    }

    private void act() {
        past.push(w.copy());
        if (past.size() > 40) {
            past.removeLast();
        }
    }

    static boolean open(World w, int one, int other) {
        return !w.sold.contains(one) && !w.sold.contains(other) && w.behind(one) == -1 && w.ahead(other) == -1
            && w.tale(one) != w.tale(other);
    }

    int attemptRefusal(int one, int other) {
        if (!isEnd(one) || !isEnd(other)) {
            return 0;
        }
        if (one == other) {
            return 1;
        }
        if (!open(w, one, other)) {
            return 2;
        }
        return w.tries >= rules[2] ? 3 : -1;
    }

    int doTry(World w, int one, int other) {
        boolean go = goes(w, one, other);
        if (go) {
            List<Integer> first = w.tale(one);
            List<Integer> second = w.tale(other);
            w.tales.removeIf(tale -> tale == second);
            first.addAll(second);
            w.made |= 1 << one;
        }
        w.colour[one] = Math.max(0, w.colour[one] - rules[1]);
        w.colour[other] = Math.max(0, w.colour[other] - rules[1]);
        w.tries++;
        return go ? 1 : 0;
    }

    int attempt(int one, int other) {
        int refusal = attemptRefusal(one, other);
        if (refusal >= 0) {
            return refuse(refusal);
        }
        act();
        return doTry(w, one, other);
    }

    int pullRefusal(int end) {
        return !isEnd(end) ? 0 : w.sold.contains(end) ? 2 : w.tale(end).size() == 1 ? 3 : -1;
    }

    int doPull(int end) {
        int off = 0;
        for (int near : new int[] {w.behind(end), w.ahead(end)}) {
            if (near >= 0) {
                off++;
                w.length[near] = Math.max(1, w.length[near] - 1);
            }
        }
        List<Integer> tale = w.tale(end);
        int at = tale.indexOf(end);
        w.tales.removeIf(t -> t == tale);
        w.tales.add(new ArrayList<>(List.of(end)));
        if (at > 0) {
            w.tales.add(new ArrayList<>(tale.subList(0, at)));
        }
        if (at + 1 < tale.size()) {
            w.tales.add(new ArrayList<>(tale.subList(at + 1, tale.size())));
        }
        return off;
    }

    int pull(int end) {
        int refusal = pullRefusal(end);
        if (refusal >= 0) {
            return refuse(refusal);
        }
        act();
        return doPull(end);
    }

    int sell(int end) {
        if (!isEnd(end)) {
            return refuse(0);
        }
        if (w.ahead(end) >= 0) {
            return refuse(1);
        }
        if (w.sold.contains(end)) {
            return refuse(2);
        }
        if (w.tale(end).size() < 2) {
            return refuse(3);
        }
        act();
        w.coins = Math.min(9999, w.coins + w.lengthOf(w.tale(end)) * w.tale(end).size() / 4);
        w.sold.addAll(w.tale(end));
        return w.coins;
    }

    int dye(int end, int colour) {
        if (!isEnd(end)) {
            return refuse(0);
        }
        if (colour < 0 || colour > 20) {
            return refuse(1);
        }
        if (!w.loose(end) || w.colour[end] == colour) {
            return refuse(2);
        }
        if (w.coins < 2) {
            return refuse(3);
        }
        act();
        int was = w.colour[end];
        w.colour[end] = colour;
        w.coins -= 2;
        return was;
    }

    int give(int n) {
        if (ends == 0) {
            return refuse(0);
        }
        if (n < 1 || n > 50 || w.coins + n > 9999) {
            return refuse(1);
        }
        act();
        w.coins += n;
        return w.coins;
    }

    private void day() {
        w.log.add(0, new int[] {w.tries, w.made, w.coins});
        if (w.log.size() > 60) {
            w.log.remove(60);
        }
        w.tries = 0;
        w.made = 0;
        w.coins = Math.min(9999, w.coins + 1);
        w.day++;
    }

    int days(int n) {
        if (ends == 0) {
            return refuse(0);
        }
        if (n < 1 || n > 60) {
            return refuse(1);
        }
        if (w.day + n > 999) {
            return refuse(4);
        }
        for (int i = 0; i < n; i++) {
            act();
            day();
        }
        return w.day;
    }

    private long x;

    private int draw(int j) {
        x = x * 6364136223846793005L + 1442695040888963407L;
        return (int) Long.remainderUnsigned(x >>> 33, j);
    }

    int years(int n, long seed) {
        if (ends == 0 || n < 1 || n > 60 || w.day + n > 999) {
            return -1;
        }
        x = seed;
        for (int i = 0; i < n; i++) {
            act();
            for (int k = 0; k < 3; k++) {
                int one = draw(ends);
                int other = draw(ends);
                if (attemptRefusal(one, other) < 0) {
                    doTry(w, one, other);
                }
            }
            if (draw(10) < wakes) {
                int end = draw(ends);
                if (pullRefusal(end) < 0) {
                    doPull(end);
                }
            }
            day();
        }
        return w.day;
    }

    int undo() {
        if (past.isEmpty()) {
            return -1;
        }
        w = past.pop();
        return past.size();
    }

    int takeImage() {
        if (ends == 0) {
            return -1;
        }
        image = w.copy();
        return w.day;
    }

    int back() {
        if (image == null) {
            return -1;
        }
        w = image.copy();
        past.clear();
        return w.day;
    }

    // ---- what could be

    int could(int end) {
        int bits = 0;
        for (int other = 0; other < ends; other++) {
            if (other != end && open(w, end, other) && goes(w, end, other)) {
                bits |= 1 << other;
            }
        }
        return bits;
    }

    private int[] bestKnots;

    int[] knots() {
        int[] could = new int[ends];
        for (int end = 0; end < ends; end++) {
            could[end] = could(end);
        }
        bestKnots = null;
        int[] chosen = new int[ends];
        allKnots(0, chosen, could);
        return bestKnots;
    }

    private void allKnots(int end, int[] chosen, int[] could) {
        if (end == ends) {
            weigh(chosen);
            return;
        }
        for (int other = 0; other < ends; other++) {
            if ((could[end] >> other & 1) == 1) {
                boolean taken = false;
                for (int k = 0; k < end; k++) {
                    taken |= chosen[k] == other;
                }
                if (!taken) {
                    chosen[end] = other;
                    allKnots(end + 1, chosen, could);
                }
            }
        }
        chosen[end] = 9;
        allKnots(end + 1, chosen, could);
    }

    private void weigh(int[] chosen) {
        int row = 0;
        int many = 0;
        for (int end = 0; end < ends; end++) {
            row = row * 10 + chosen[end];
            many += chosen[end] == 9 ? 0 : 1;
            int at = end;
            for (int step = 0; step < ends && at >= 0; step++) {
                at = chosen[at] != 9 ? chosen[at] : w.behind(at);
                if (at == end) {
                    return;
                }
            }
        }
        if (bestKnots == null || many > bestKnots[1] || many == bestKnots[1] && row < bestKnots[0]) {
            bestKnots = new int[] {row, many};
        }
    }

    private int[] bestTale;

    int[] tale() {
        bestTale = new int[] {-1, 0, 0};
        for (int end = 0; end < ends; end++) {
            if (w.loose(end)) {
                rows(new ArrayList<>(List.of(end)));
            }
        }
        return bestTale;
    }

    private void rows(List<Integer> row) {
        int digits = 0;
        for (int end : row) {
            digits = digits * 10 + end;
        }
        int length = w.lengthOf(row);
        if (bestTale[0] == -1 || length > bestTale[1] || length == bestTale[1] && (row.size() < bestTale[2]
            || row.size() == bestTale[2] && digits < bestTale[0])) {
            bestTale = new int[] {digits, length, row.size()};
        }
        for (int next = 0; next < ends; next++) {
            if (w.loose(next) && !row.contains(next) && goes(w, row.get(row.size() - 1), next, row.size())) {
                row.add(next);
                rows(row);
                row.remove(row.size() - 1);
            }
        }
    }

    private int[] bestPlan;

    int[] plan(int n) {
        bestPlan = null;
        plans(w, n, "", 0);
        return bestPlan;
    }

    private void plans(World from, int n, String row, int made) {
        boolean more = false;
        for (int one = 0; n > 0 && one < ends; one++) {
            for (int other = 0; other < ends; other++) {
                if (one != other && open(from, one, other)) {
                    more = true;
                    World then = from.copy();
                    int knotted = doTry(then, one, other);
                    plans(then, n - 1, row + one + other, made + knotted);
                }
            }
        }
        if (!more) {
            int digits = row.isEmpty() ? -1 : Integer.parseInt(row);
            if (bestPlan == null || made > bestPlan[1] || made == bestPlan[1] && digits < bestPlan[0]) {
                bestPlan = new int[] {digits, made};
            }
        }
    }

    int blankets(int size) {
        List<Integer> bundles = new ArrayList<>();
        for (List<Integer> tale : w.tales) {
            if (!w.sold.contains(tale.get(0))) {
                bundles.add(w.lengthOf(tale));
            }
        }
        return lay(bundles, 0, new ArrayList<>(), size);
    }

    /** All ways to lay the bundles from one on: in each BLANKET there is, or in one more. */
    private static int lay(List<Integer> bundles, int at, List<Integer> blankets, int size) {
        if (at == bundles.size()) {
            return blankets.size();
        }
        int best = -1;
        for (int i = 0; i <= blankets.size(); i++) {
            List<Integer> more = new ArrayList<>(blankets);
            if (i == more.size()) {
                more.add(0);
            }
            more.set(i, more.get(i) + bundles.get(at));
            if (more.get(i) <= size) {
                int found = lay(bundles, at + 1, more, size);
                best = found >= 0 && (best < 0 || found < best) ? found : best;
            }
        }
        return best;
    }

    private boolean goesAsTold(int one, int other, int end, int ply) {
        int first = one == end ? ply : toldPly[one];
        int second = other == end ? ply : toldPly[other];
        return goes(Math.abs(toldColour[one] - toldColour[other]), Math.abs(first - second),
            toldLength[one] + toldLength[other], 1, 0);
    }

    List<Integer> plies(int end) {
        List<Integer> fitting = new ArrayList<>();
        for (int ply = 1; ply <= 6; ply++) {
            boolean all = true;
            for (int[] s : seen) {
                if (s[0] == end || s[1] == end) {
                    all &= goesAsTold(s[0], s[1], end, ply) == (s[2] == 1);
                }
            }
            if (all) {
                fitting.add(ply);
            }
        }
        return fitting;
    }

    int ask(int end) {
        List<Integer> fitting = plies(end);
        int best = -1;
        int least = 99;
        for (int other = 0; other < ends && !fitting.isEmpty(); other++) {
            if (other != end) {
                int yes = 0;
                for (int ply : fitting) {
                    yes += goesAsTold(end, other, end, ply) ? 1 : 0;
                }
                int apart = Math.abs(yes - (fitting.size() - yes));
                if (apart < least) {
                    least = apart;
                    best = other;
                }
            }
        }
        return best;
    }

    int game(int one, int other, int x, int y, int what) {
        World dyed = w.copy();
        dyed.colour[one] = Math.min(20, w.colour[one] + x);
        dyed.colour[other] = Math.min(20, w.colour[other] + y);
        int who = what == 0 ? one : other;
        int has = what == 0 ? -x : -y;
        for (int end = 0; end < ends; end++) {
            if (end != who && (goes(dyed, who, end, 1) || goes(dyed, end, who, 1))) {
                has++;
            }
        }
        return has;
    }

    List<Integer> rests(int one, int other) {
        List<Integer> rests = new ArrayList<>();
        for (int x = 0; x < 4; x++) {
            for (int y = 0; y < 4; y++) {
                boolean rest = true;
                for (int k = 0; k < 4; k++) {
                    rest &= game(one, other, k, y, 0) <= game(one, other, x, y, 0);
                    rest &= game(one, other, x, k, 1) <= game(one, other, x, y, 1);
                }
                if (rest) {
                    rests.add(10 * x + y);
                }
            }
        }
        return rests;
    }

    int odds(int end, int chance) {
        World then = w.copy();
        long left = 1000000000L;
        long knotted = 0;
        for (int other = 0; other < ends; other++) {
            if (other != end && open(w, end, other)) {
                if (goes(then, end, other)) {
                    long err = left * chance / 100;
                    knotted += left - err;
                    left = err;
                }
                then.colour[end] = Math.max(0, then.colour[end] - rules[1]);
                then.colour[other] = Math.max(0, then.colour[other] - rules[1]);
            }
        }
        return (int) knotted;
    }

    // ---- what is

    int most(int what) {
        int[][] by = {w.length, w.colour, toldPly};
        int bits = 0;
        int sum = 0;
        if (what < 3) {
            int best = 0;
            for (int end = 0; end < ends; end++) {
                best = by[what][end] > by[what][best] ? end : best;
            }
            return best;
        }
        for (int end = 0; end < ends; end++) {
            boolean racked = w.loose(end);
            for (int other = 0; other < ends; other++) {
                if (other != end && w.loose(other) && (goes(w, end, other) || goes(w, other, end))) {
                    racked = false;
                }
            }
            boolean in = what == 3 ? w.loose(end) : what == 4 ? w.sold.contains(end) : what == 5 && racked;
            bits |= in ? 1 << end : 0;
        }
        for (List<Integer> tale : w.tales) {
            if (tale.size() > 1 && !w.sold.contains(tale.get(0))) {
                sum += what == 6 ? 1 : w.lengthOf(tale) * tale.size() / 4;
            }
        }
        return what < 6 ? bits : sum;
    }

    /** A LAW reckoned straight from its text, the loosest sign split first. */
    static final class Law {
        private final String text;
        private final int[] letters;

        Law(String text, int... letters) {
            this.text = text.replace(" ", "");
            this.letters = letters;
        }

        int worth() {
            for (String clause : text.split(";")) {
                String said = clause.substring(2);
                int mark = said.indexOf('?');
                if (mark < 0 || holds(said.substring(0, mark))) {
                    return sum(said.substring(mark + 1));
                }
            }
            return 0;
        }

        /** Where the last of these signs stands outside of all brackets, or -1. */
        private static int last(String text, String signs) {
            int depth = 0;
            for (int i = text.length() - 1; i >= 0; i--) {
                char sign = text.charAt(i);
                depth += sign == ')' || sign == ']' ? 1 : sign == '(' || sign == '[' ? -1 : 0;
                if (depth == 0 && signs.indexOf(sign) >= 0) {
                    return i;
                }
            }
            return -1;
        }

        private boolean holds(String text) {
            int at = last(text, "|");
            if (at >= 0) {
                return holds(text.substring(0, at)) || holds(text.substring(at + 1));
            }
            at = last(text, "&");
            if (at >= 0) {
                return holds(text.substring(0, at)) && holds(text.substring(at + 1));
            }
            if (text.charAt(0) == '!') {
                return !holds(text.substring(1));
            }
            if (text.charAt(0) == '(') {
                return holds(text.substring(1, text.length() - 1));
            }
            at = last(text, "=<>");
            int first = sum(text.substring(0, at));
            int second = sum(text.substring(at + 1));
            char sign = text.charAt(at);
            return sign == '=' ? first == second : sign == '<' ? first < second : first > second;
        }

        private int sum(String text) {
            int at = last(text, "+-");
            if (at < 0) {
                at = last(text, "*/");
            }
            if (at >= 0) {
                long first = sum(text.substring(0, at));
                long second = sum(text.substring(at + 1));
                char sign = text.charAt(at);
                long value = sign == '+' ? first + second : sign == '-' ? first - second
                    : sign == '*' ? first * second : second == 0 ? 0 : first / second;
                return (int) Math.max(-1000000, Math.min(1000000, value));
            }
            if (text.charAt(0) == '[') {
                return sum(text.substring(1, text.length() - 1));
            }
            int letter = "cplent".indexOf(text.charAt(0));
            return letter >= 0 ? letters[letter] : Integer.parseInt(text);
        }
    }
}
