/** Promise 7: thread. */
public final class Promise07ThreadTest extends Cases {
    public static void main(String[] args) {
        run(Promise07ThreadTest.class);
    }

    private static void noSuch(int end, int what) {
        refused(Cases::busy, x -> throwsNoSuch(x, end, what) ? 1 : 0, 1, NO_STATUS);
    }

    static void noMill() {
        due("thread(0, 0)", throwsNoSuch(new LooseEnds(), 0, 0), true);
        due("thread(-1, -1)", throwsNoSuch(new LooseEnds(), -1, -1), true);
    }

    static void noSuchEnd() {
        noSuch(-1, 0);
        noSuch(7, 0);
        noSuch(LEAST, 0);
        noSuch(MOST, 0);
    }

    static void noSuchEndOfASmallerMill() {
        LooseEnds x = mill("t;t");
        due("thread(1, 0)", throwsNoSuch(x, 1, 0), false);
        due("thread(2, 0)", throwsNoSuch(x, 2, 0), true);
    }

    static void noSuchWhat() {
        noSuch(0, -1);
        noSuch(0, 6);
        noSuch(0, LEAST);
        noSuch(0, MOST);
        noSuch(7, 6);
    }

    static void withoutItems() {
        thread(mill("t;t"), 0, 10, 2, 5, 0, NONE, NONE);
    }

    static void theLeastAndTheMost() {
        LooseEnds x = mill("tc0p1l1;tc20p6l20");
        thread(x, 0, 0, 1, 1, 0, NONE, NONE);
        thread(x, 1, 20, 6, 20, 0, NONE, NONE);
    }

    static void theFirstAndTheLastOfSeven() {
        LooseEnds x = mill("tc1;tc2;tc3;tc4;tc5;tc6;tc7");
        for (int end = 0; end < 7; end++) {
            due("COLOUR of " + end, x.thread(end, 0), end + 1);
        }
    }

    static void behindAndAhead() {
        LooseEnds x = oneTale(3);
        thread(x, 0, 10, 2, 5, 0, 1, NONE);
        thread(x, 1, 10, 2, 5, 0, 2, 0);
        thread(x, 2, 10, 2, 5, 0, NONE, 1);
    }

    static void soldOnesKeepTheirKnots() {
        LooseEnds x = allSold(3);
        thread(x, 0, 10, 2, 5, 1, 1, NONE);
        thread(x, 1, 10, 2, 5, 1, 2, 0);
        thread(x, 2, 10, 2, 5, 1, NONE, 1);
    }

    static void allAsNow() {
        LooseEnds x = mill("sf3;tl5;tl6");
        knot(x, 0, 1);
        thread(x, 0, 7, 2, 5, 0, 1, NONE);
        x.pull(0);
        thread(x, 0, 7, 2, 5, 0, NONE, NONE);
        thread(x, 1, 7, 2, 5, 0, NONE, NONE);
        x.dye(1, 0);
        thread(x, 1, 0, 2, 5, 0, NONE, NONE);
    }
}
