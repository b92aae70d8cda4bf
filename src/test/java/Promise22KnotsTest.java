/** Promise 22: knots. */
public final class Promise22KnotsTest extends Cases {
    public static void main(String[] args) {
        run(Promise22KnotsTest.class);
    }

    private static void knots(LooseEnds x, int row, int many) {
        due("the row", x.knots(0), row);
        due("how many", x.knots(1), many);
    }

    static void noMill() {
        due("the row", new LooseEnds().knots(0), NONE);
        due("how many", new LooseEnds().knots(1), NONE);
    }

    static void noSuchWhat() {
        int[] wrong = {-1, 2, LEAST, MOST};
        for (int what : wrong) {
            refused(Cases::busy, x -> x.knots(what), NONE, NO_STATUS);
        }
    }

    static void none() {
        knots(mill("tc0;tc20"), 99, 0);
        knots(mill("tc0;tc3;tc6;tc9;tc12;tc15;tc18"), 9999999, 0);
    }

    static void two() {
        knots(alike(2, ""), 19, 1);
    }

    static void seven() {
        knots(alike(7, ""), 1234569, 6);
    }

    static void nothingLoose() {
        knots(oneTale(2), 99, 0);
        knots(oneTale(7), 9999999, 0);
    }

    static void everythingSold() {
        knots(allSold(2), 99, 0);
        knots(allSold(7), 9999999, 0);
    }

    static void whatIsSoldIsLeftOut() {
        LooseEnds x = alike(4, "sf0");
        knot(x, 0, 1);
        x.sell(0);
        knots(x, 9939, 1);
    }

    static void talesAreKnottedOn() {
        LooseEnds x = alike(4, "sf0");
        knot(x, 2, 0);
        // 0 with 1, 1 with 3: 2 has one behind it
        knots(x, 1399, 2);
    }

    static void noRingOfTales() {
        LooseEnds x = alike(4, "sf0");
        knot(x, 0, 1);
        knot(x, 2, 3);
        knots(x, 9299, 1);
    }

    static void noRingOfSingleOnes() {
        // 0 and 1 alone go with one another, and so do 2 and 3
        knots(mill("tc0;tc0;tc20;tc20"), 1939, 2);
    }

    static void ofSeveralTheLeastRow() {
        knots(mill("tc0;tc20;tc20;tc0"), 3299, 2);
        // all go with 2 alone: 0 ahead of it, 1 behind it
        knots(mill("se4;tc0;tc8;tc4"), 291, 2);
    }

    static void theMostThoughALesserRowHasFewer() {
        // 0 and 1 go with one another and with two more each: knotted with one another they make three
        knots(mill("se4;tc8p3;tc12p3;tc4p3;tc8p1;tc16p3;tc12p5"), 249091, 4);
        // 3 goes with 1 alone: 2, 0, 1, 3
        knots(mill("se3;tc4;tc6;tc3;tc9"), 1309, 3);
        // 4 goes with 0 alone, 3 with 1 alone: 4, 0, 2, 1, 3
        knots(mill("se3;tc6;tc3;tc4;tc0;tc8"), 23190, 4);
    }

    static void nothingFades() {
        knots(alike(3, "se0f9"), 129, 2);
        // 1 goes with both, as long as it has not FADED
        knots(mill("sf9;tc10;tc12;tc14"), 129, 2);
    }

    static void nAsItIsNow() {
        LooseEnds x = alike(3, "sf0");
        Desk.hold(x, "y:n=1?1");
        knots(x, 129, 2);
        knot(x, 0, 1);
        // 1 is the last of two
        knots(x, 990, 1);
    }

    static void girlsDoNotMatter() {
        LooseEnds x = alike(3, "sg1");
        knot(x, 0, 1);
        due("no GIRL", x.attempt(1, 2), NONE);
        knots(x, 929, 1);
    }

    static void nothingChanges() {
        LooseEnds x = busy();
        x.knots(0);
        x.knots(1);
        same("as it was", x, busy());
    }
}
