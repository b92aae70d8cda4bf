/** Promise 10: pull. */
public final class Promise10PullTest extends Cases {
    public static void main(String[] args) {
        run(Promise10PullTest.class);
    }

    private static void refusedOfBusy(int end, int kind) {
        refused(Cases::busy, x -> x.pull(end), NONE, kind);
    }

    /** A TALE of ENDS of these LENGTHS, nothing FADES. */
    private static LooseEnds tale(int... lengths) {
        StringBuilder text = new StringBuilder("sf0g9");
        for (int length : lengths) {
            text.append(";tl").append(length);
        }
        LooseEnds x = mill(text.toString());
        for (int end = 0; end + 1 < lengths.length; end++) {
            knot(x, end, end + 1);
        }
        return x;
    }

    private static void lengths(LooseEnds x, int... want) {
        for (int end = 0; end < want.length; end++) {
            due("LENGTH of " + end, x.thread(end, 2), want[end]);
        }
    }

    static void noSuchEnd() {
        refusedOfBusy(-1, 0);
        refusedOfBusy(7, 0);
        refusedOfBusy(LEAST, 0);
        refusedOfBusy(MOST, 0);
        refused(() -> oneTale(2), x -> x.pull(2), NONE, 0);
    }

    static void sold() {
        refusedOfBusy(2, 2);
        refusedOfBusy(3, 2);
        refused(() -> allSold(3), x -> x.pull(1), NONE, 2);
    }

    static void notKnotted() {
        refusedOfBusy(4, 3);
        refusedOfBusy(6, 3);
    }

    static void notKnottedAnyMore() {
        LooseEnds x = oneTale(2);
        due("pull", x.pull(0), 1);
        due("once more", x.pull(0), NONE);
        due("the other one", x.pull(1), NONE);
        status(x, 0, 0, 0, 2, 0);
    }

    static void theFirstOne() {
        LooseEnds x = tale(5, 6, 7);
        due("KNOTS", x.pull(0), 1);
        lengths(x, 5, 5, 7);
        due("LOOSE", x.most(3), 1);
        due("FIRST", x.story(2, 0), 1);
    }

    static void theLastOne() {
        LooseEnds x = tale(5, 6, 7);
        due("KNOTS", x.pull(2), 1);
        lengths(x, 5, 5, 7);
        due("LOOSE", x.most(3), 4);
        due("LAST", x.story(0, 1), 1);
    }

    static void oneBetweenTwo() {
        LooseEnds x = tale(5, 6, 7);
        due("KNOTS", x.pull(1), 2);
        lengths(x, 4, 6, 6);
        due("LOOSE", x.most(3), 7);
    }

    static void oneBetweenTales() {
        LooseEnds x = tale(5, 5, 5, 5, 5, 5, 5);
        due("KNOTS", x.pull(3), 2);
        lengths(x, 5, 5, 4, 5, 4, 5, 5);
        due("two TALES", x.most(6), 2);
        due("LAST", x.story(0, 1), 2);
        due("FIRST", x.story(6, 0), 4);
    }

    static void oneAtLeast() {
        LooseEnds x = tale(1, 20, 1);
        due("KNOTS", x.pull(1), 2);
        lengths(x, 1, 20, 1);
    }

    static void fromTwoToOne() {
        LooseEnds x = tale(2, 1, 2);
        due("KNOTS", x.pull(1), 2);
        lengths(x, 1, 1, 1);
    }

    static void shorterEachTime() {
        LooseEnds x = tale(5, 3);
        int[] want = {2, 1, 1};
        for (int length : want) {
            due("pull", x.pull(0), 1);
            lengths(x, 5, length);
            knot(x, 0, 1);
        }
    }

    static void noGirlIsWanted() {
        LooseEnds x = noGirl();
        due("pull", x.pull(0), 1);
        due("TRIES", x.count(5), 3);
    }

    static void nothingElseChanges() {
        LooseEnds x = mill("sk9f3;tp3;tp2");
        knot(x, 0, 1);
        x.pull(1);
        thread(x, 0, 7, 3, 4, 0, NONE, NONE);
        thread(x, 1, 7, 2, 5, 0, NONE, NONE);
        due("COINS", x.rule(3), 9);
    }

    static void onTheLastDay() {
        LooseEnds x = on(999, "t;t");
        knot(x, 0, 1);
        due("pull", x.pull(1), 1);
    }

    static void aPullIsOneAct() {
        LooseEnds x = tale(5, 6, 7);
        due("ACTS", x.count(9), 2);
        x.pull(1);
        due("ACTS", x.count(9), 3);
        x.undo();
        lengths(x, 5, 6, 7);
        due("one TALE", x.story(0, 2), 3);
    }
}
