/** Promise 23: tale. */
public final class Promise23TaleTest extends Cases {
    public static void main(String[] args) {
        run(Promise23TaleTest.class);
    }

    private static void tale(LooseEnds x, int row, int length) {
        due("the row", x.tale(0), row);
        due("LENGTH", x.tale(1), length);
    }

    static void noMill() {
        due("the row", new LooseEnds().tale(0), NONE);
        due("LENGTH", new LooseEnds().tale(1), NONE);
    }

    static void noSuchWhat() {
        int[] wrong = {-1, 2, LEAST, MOST};
        for (int what : wrong) {
            refused(Cases::busy, x -> x.tale(what), NONE, NO_STATUS);
        }
    }

    static void nothingLoose() {
        tale(oneTale(2), NONE, 0);
        tale(oneTale(7), NONE, 0);
    }

    static void everythingSold() {
        tale(allSold(2), NONE, 0);
        tale(allSold(7), NONE, 0);
    }

    static void oneAtLeast() {
        tale(mill("tc0l1;tc20l2"), 1, 2);
        LooseEnds x = mill("sf0;t;t;tl4");
        knot(x, 0, 1);
        tale(x, 2, 4);
        x.sell(0);
        tale(x, 2, 4);
    }

    static void theFirstOneAlone() {
        tale(mill("tc0l9;tc20l8"), 0, 9);
    }

    static void seven() {
        tale(alike(7, ""), 123456, 35);
        tale(mill("tl20;tl20;tl20;tl20;tl20;tl20;tl20"), 123456, 140);
        tale(mill("tl1;tl1;tl1;tl1;tl1;tl1;tl1"), 123456, 7);
    }

    static void ofSeveralTheShortestRow() {
        tale(mill("tc0l5;tc0l5;tc20l10"), 2, 10);
        tale(mill("tc0l10;tc20l5;tc20l5"), 0, 10);
        tale(mill("tc0l5;tc0l5;tc20l9"), 1, 10);
    }

    static void thenTheLeastRow() {
        tale(mill("tc0;tc20;tc20;tc0"), 3, 10);
        tale(mill("tc0l9;tc10l9;tc20l9"), 0, 9);
        tale(mill("tc6;tc8;tc10"), 12, 15);
        tale(mill("tc8;tc6;tc10"), 102, 15);
        tale(mill("tc8;tc4;tc6;tc10"), 1203, 20);
        // 0 goes with all, 1 with 0 and 4 alone
        tale(mill("se3;tc3;tc5;tc1;tc1;tc3"), 1423, 25);
    }

    static void nIsHowManyAreInTheRowSoFar() {
        String[] laws = {"y:1-n", "y:2-n", "y:4-n", "y:6-n", "y:7-n"};
        int[] rows = {0, 1, 123, 12345, 123456};
        int[] lengths = {5, 10, 20, 30, 35};
        for (int i = 0; i < laws.length; i++) {
            LooseEnds x = alike(7, "");
            Desk.hold(x, laws[i]);
            tale(x, rows[i], lengths[i]);
        }
        LooseEnds x = alike(3, "");
        Desk.hold(x, "y:n=2?1");
        tale(x, 0, 5);
    }

    static void nothingFades() {
        tale(alike(3, "se0f9"), 12, 15);
    }

    static void knottedAndSoldOnesAreLeftOut() {
        LooseEnds x = mill("sf0;tl9;tl9;tl9;tl9;tl1;tl1");
        knot(x, 0, 1);
        knot(x, 2, 3);
        x.sell(2);
        tale(x, 45, 2);
        LooseEnds y = mill("sf0;tl1;tl9;tl9");
        knot(y, 1, 2);
        tale(y, 0, 1);
        y.sell(1);
        tale(y, 0, 1);
    }

    static void nothingChanges() {
        LooseEnds x = busy();
        x.tale(0);
        x.tale(1);
        same("as it was", x, busy());
    }
}
