/** Promise 11: sell. */
public final class Promise11SellTest extends Cases {
    public static void main(String[] args) {
        run(Promise11SellTest.class);
    }

    private static void refusedOfBusy(int end, int kind) {
        refused(Cases::busy, x -> x.sell(end), NONE, kind);
    }

    static void noSuchEnd() {
        refusedOfBusy(-1, 0);
        refusedOfBusy(7, 0);
        refusedOfBusy(LEAST, 0);
        refusedOfBusy(MOST, 0);
        refused(() -> oneTale(2), x -> x.sell(2), NONE, 0);
    }

    static void notTheFirstOfATale() {
        refusedOfBusy(1, 1);
        refused(() -> oneTale(3), x -> x.sell(1), NONE, 1);
        refused(() -> oneTale(3), x -> x.sell(2), NONE, 1);
    }

    static void sold() {
        refusedOfBusy(2, 2);
        refused(() -> allSold(7), x -> x.sell(0), NONE, 2);
    }

    static void alone() {
        refusedOfBusy(4, 3);
        refusedOfBusy(6, 3);
    }

    static void ofSeveralTheFirst() {
        // SOLD, and not the first
        refusedOfBusy(3, 1);
    }

    static void twoEndsAtLeast() {
        due("two", oneTale(2).sell(0), 20 + 5);
    }

    static void sevenEnds() {
        LooseEnds x = mill("sf0g9k0;tl20;tl20;tl20;tl20;tl20;tl20;tl20");
        knot(x, 0, 1, 2, 3, 4, 5, 6);
        due("140 times 7 by 4", x.sell(0), 245);
        due("SOLD", x.most(4), 127);
    }

    private static void two(int first, int second, int want) {
        LooseEnds x = mill("sk0;tl" + first + ";tl" + second);
        knot(x, 0, 1);
        due(first + " and " + second, x.sell(0), want);
    }

    static void theLeast() {
        two(1, 1, 1);
    }

    static void cut() {
        two(1, 2, 1);
        two(2, 2, 2);
        two(2, 3, 2);
    }

    static void cutOnceForAll() {
        LooseEnds x = mill("sk0;tl1;tl1;tl1");
        knot(x, 0, 1, 2);
        due("9 by 4", x.sell(0), 2);
    }

    private static LooseEnds richTale(int coins) {
        LooseEnds x = rich(coins, "tl20;tl20;t");
        knot(x, 0, 1);
        return x;
    }

    static void coins9999AtMost() {
        due("9,979 and 20", richTale(9979).sell(0), 9999);
        due("9,980 and 20", richTale(9980).sell(0), 9999);
        due("9,978 and 20", richTale(9978).sell(0), 9998);
        LooseEnds x = richTale(9999);
        due("9,999 and 20", x.sell(0), 9999);
        due("it is SOLD all the same", x.most(4), 3);
        status(x, 0, 0, 0, 0, 0);
    }

    static void theirKnotsStay() {
        LooseEnds x = oneTale(3);
        x.sell(0);
        thread(x, 0, 10, 2, 5, 1, 1, NONE);
        thread(x, 1, 10, 2, 5, 1, 2, 0);
        thread(x, 2, 10, 2, 5, 1, NONE, 1);
    }

    static void othersAreNotSold() {
        LooseEnds x = mill("sf0;t;t;t;t;t");
        knot(x, 3, 1);
        knot(x, 0, 4);
        x.sell(3);
        due("SOLD", x.most(4), 8 + 2);
        due("the other TALE", x.sell(0), 20 + 5 + 5);
        due("SOLD", x.most(4), 1 + 2 + 8 + 16);
        due("LOOSE", x.most(3), 4);
    }

    static void lengthAsItIsNow() {
        LooseEnds x = mill("sk0f0;tl5;tl4");
        knot(x, 0, 1);
        x.pull(0);
        knot(x, 0, 1);
        due("5 and 3", x.sell(0), 4);
    }

    static void noGirlIsWanted() {
        // 11 times 2 by 4
        due("sell", noGirl().sell(0), 41 + 5);
    }

    static void onTheLastDay() {
        LooseEnds x = on(999, "t;t");
        knot(x, 0, 1);
        due("sell", x.sell(0), 20 + 999 + 5);
    }

    static void aSaleIsOneAct() {
        LooseEnds x = oneTale(3);
        due("ACTS", x.count(9), 2);
        x.sell(0);
        due("ACTS", x.count(9), 3);
        x.undo();
        due("none SOLD", x.most(4), 0);
        due("COINS", x.rule(3), 20);
    }

    static void aSaleAt9999IsUndone() {
        LooseEnds x = richTale(9990);
        x.sell(0);
        x.undo();
        due("COINS", x.rule(3), 9990);
    }
}
