/** Promise 25: blankets. */
public final class Promise25BlanketsTest extends Cases {
    public static void main(String[] args) {
        run(Promise25BlanketsTest.class);
    }

    private static void blankets(LooseEnds x, int... want) {
        for (int i = 0; i < want.length; i += 2) {
            due("blankets(" + want[i] + ")", x.blankets(want[i]), want[i + 1]);
        }
    }

    static void noMill() {
        blankets(new LooseEnds(), 0, NONE, 1, NONE, 140, NONE, 141, NONE);
    }

    static void outOfBounds() {
        int[] wrong = {0, -1, 141, LEAST, MOST};
        for (int w : wrong) {
            refused(Cases::busy, x -> x.blankets(w), NONE, NO_STATUS);
            due("everything SOLD", allSold(2).blankets(w), NONE);
        }
    }

    static void ofOneAndOf140() {
        blankets(mill("tl1;tl1"), 1, 2, 2, 1, 140, 1);
    }

    static void byNone() {
        blankets(mill("tl5;tl20"), 19, NONE, 20, 2, 24, 2, 25, 1);
        blankets(mill("tl2;tl1"), 1, NONE, 2, 2, 3, 1);
    }

    static void sevenOf20() {
        blankets(mill("tl20;tl20;tl20;tl20;tl20;tl20;tl20"), 19, NONE, 20, 7, 39, 7, 40, 4, 59, 4, 60, 3, 79, 3, 80, 2,
            139, 2, 140, 1);
    }

    static void aTaleLiesWhole() {
        LooseEnds x = mill("sf0g9;tl20;tl20;tl20;tl20;tl20;tl20;tl20");
        knot(x, 0, 1, 2, 3, 4, 5, 6);
        blankets(x, 1, NONE, 20, NONE, 139, NONE, 140, 1);
    }

    static void aTaleAndSingleOnes() {
        LooseEnds x = mill("sf0;tl5;tl6;tl4;tl5");
        knot(x, 0, 1);
        blankets(x, 10, NONE, 11, 2, 14, 2, 15, 2, 19, 2, 20, 1);
    }

    static void whatIsSoldLiesInNone() {
        LooseEnds x = mill("sf0;tl20;tl20;tl4;tl5");
        knot(x, 0, 1);
        x.sell(0);
        blankets(x, 4, NONE, 5, 2, 8, 2, 9, 1);
    }

    static void everythingSold() {
        blankets(allSold(2), 1, 0, 140, 0);
        blankets(allSold(7), 1, 0, 140, 0);
    }

    static void theFewest() {
        // 7 and 13, 8 and 12, 9 and 11, 10
        LooseEnds x = mill("tl7;tl8;tl9;tl10;tl11;tl12;tl13");
        blankets(x, 20, 4, 24, 3, 23, 4, 34, 3, 35, 2, 69, 2, 70, 1);
        // 10 10, 8 6 6, 12 8: the longest first into the first that has room would take four of them
        blankets(mill("tl12;tl10;tl10;tl8;tl8;tl6;tl6"), 20, 3);
    }

    static void lengthsAsTheyAreNow() {
        LooseEnds x = mill("sf0;tl5;tl5");
        knot(x, 0, 1);
        x.pull(0);
        blankets(x, 9, 1, 8, 2);
    }
}
