/** Promise 33: shares. */
public final class Promise33SharesTest extends Cases {
    public static void main(String[] args) {
        run(Promise33SharesTest.class);
    }

    private static void shares(LooseEnds x, int end, int c, int want) {
        due("shares(" + end + ", " + c + ")", x.shares(end, c), want);
    }

    static void noMill() {
        shares(new LooseEnds(), 0, 0, NONE);
        shares(new LooseEnds(), 0, 999, NONE);
    }

    static void noSuchEnd() {
        int[] wrong = {-1, 7, LEAST, MOST};
        for (int end : wrong) {
            refused(Cases::busy, x -> x.shares(end, 1), NONE, NO_STATUS);
        }
        shares(mill("t;t"), 2, 1, NONE);
    }

    static void outOfBounds() {
        int[] wrong = {-1, 1000, LEAST, MOST};
        for (int c : wrong) {
            refused(Cases::busy, x -> x.shares(0, c), NONE, NO_STATUS);
        }
    }

    static void of0AndOf999() {
        LooseEnds x = mill("tl1;tl2");
        shares(x, 0, 0, 0);
        shares(x, 1, 0, 0);
        shares(x, 0, 999, 333);
        shares(x, 1, 999, 666);
    }

    static void cut() {
        LooseEnds x = mill("tl1;tl2");
        shares(x, 0, 1, 0);
        shares(x, 0, 2, 0);
        shares(x, 0, 3, 1);
        shares(x, 1, 1, 0);
        shares(x, 1, 2, 1);
        shares(x, 0, 998, 332);
        shares(x, 1, 998, 665);
    }

    static void theLeastAndTheMostOfSeven() {
        LooseEnds x = mill("tl1;tl20;tl20;tl20;tl20;tl20;tl20");
        shares(x, 0, 999, 8);
        shares(x, 0, 121, 1);
        shares(x, 0, 120, 0);
        shares(x, 6, 999, 165);
        LooseEnds y = mill("tl20;tl20;tl20;tl20;tl20;tl20;tl20");
        shares(y, 3, 999, 142);
    }

    static void lengthsAsTheyAreNow() {
        LooseEnds x = mill("sf0;tl5;tl5");
        knot(x, 0, 1);
        x.pull(0);
        shares(x, 0, 9, 5);
        shares(x, 1, 9, 4);
    }

    static void soldAndKnottedOnesToo() {
        LooseEnds x = mill("sf0;tl5;tl5;tl10");
        knot(x, 0, 1);
        shares(x, 2, 100, 50);
        x.sell(0);
        shares(x, 2, 100, 50);
        shares(x, 0, 100, 25);
        shares(allSold(2), 1, 999, 499);
    }
}
