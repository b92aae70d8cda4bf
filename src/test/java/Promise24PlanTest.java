/** Promise 24: plan. */
public final class Promise24PlanTest extends Cases {
    public static void main(String[] args) {
        run(Promise24PlanTest.class);
    }

    private static void plan(LooseEnds x, int n, int row, int many) {
        due("the row of " + n, x.plan(n, 0), row);
        due("how many of " + n, x.plan(n, 1), many);
    }

    static void noMill() {
        for (int n = 0; n < 4; n++) {
            due("the row", new LooseEnds().plan(n, 0), NONE);
            due("how many", new LooseEnds().plan(n, 1), NONE);
        }
    }

    static void outOfBounds() {
        int[] wrong = {0, 3, -1, LEAST, MOST};
        for (int n : wrong) {
            refused(Cases::busy, x -> x.plan(n, 0), NONE, NO_STATUS);
            refused(Cases::busy, x -> x.plan(n, 1), NONE, NO_STATUS);
        }
    }

    static void noSuchWhat() {
        int[] wrong = {-1, 2, LEAST, MOST};
        for (int what : wrong) {
            refused(Cases::busy, x -> x.plan(1, what), NONE, NO_STATUS);
            refused(Cases::busy, x -> x.plan(2, what), NONE, NO_STATUS);
        }
    }

    static void noTryThatCouldBe() {
        plan(oneTale(2), 1, NONE, 0);
        plan(oneTale(2), 2, NONE, 0);
        plan(oneTale(7), 2, NONE, 0);
    }

    static void everythingSold() {
        plan(allSold(2), 1, NONE, 0);
        plan(allSold(7), 2, NONE, 0);
    }

    static void oneLeftByItself() {
        LooseEnds x = alike(3, "sf0");
        knot(x, 0, 1);
        x.sell(0);
        plan(x, 1, NONE, 0);
        plan(x, 2, NONE, 0);
    }

    static void fewerIfThereAreNoMore() {
        plan(alike(2, ""), 2, 1, 1);
        LooseEnds x = alike(3, "sf0");
        knot(x, 2, 0);
        plan(x, 2, 1, 1);
    }

    static void triesThatMakeNoKnot() {
        plan(mill("sf0;tc0;tc20"), 1, 1, 0);
        plan(mill("sf0;tc0;tc20"), 2, 101, 0);
        // a second TRY comes though it makes none
        plan(mill("sf0;t;t;tc20"), 2, 112, 1);
    }

    static void one() {
        plan(alike(7, ""), 1, 1, 1);
        plan(mill("tc0;tc20;tc19"), 1, 12, 1);
        plan(mill("tc0;tc3;tc6;tc9;tc12;tc15;tc17"), 1, 56, 1);
    }

    static void two() {
        plan(alike(7, ""), 2, 112, 2);
        plan(mill("sf0;tc0;tc0;tc20;tc20"), 2, 123, 2);
        // 0 goes with none
        plan(mill("sf0;tc0;tc20;tc20;tc20"), 2, 1223, 2);
        plan(mill("sf0;tc0;tc3;tc6;tc9;tc12;tc15;tc17"), 2, 156, 1);
        // 5 FADES to 14 by the first one, 2 from 4
        plan(mill("tc0;tc3;tc6;tc9;tc12;tc15;tc17"), 2, 5645, 2);
    }

    static void ofSeveralTheLeastRow() {
        LooseEnds x = alike(3, "sf0");
        Desk.hold(x, "y:n=1?1");
        knot(x, 0, 1);
        // 12 fails, so that 1220 makes one KNOT, too; behind 20 there is none to come
        plan(x, 2, 20, 1);
    }

    static void theMostOfAllNotOfTheLast() {
        // 01 makes one; by 21, the last of all, 1 FADES away from 0
        plan(mill("se0f9;t;t;tc20"), 2, 112, 1);
    }

    static void soldOnesAreNotTried() {
        LooseEnds x = alike(5, "sf0");
        knot(x, 0, 1);
        x.sell(0);
        plan(x, 1, 23, 1);
        plan(x, 2, 2334, 2);
    }

    static void lengthAndDayAsNow() {
        LooseEnds x = mill("sf0;tl1;tl2;tl3;tl4");
        x.days(2);
        Desk.hold(x, "y:l=5&t=2?1");
        plan(x, 1, 3, 1);
        plan(x, 2, 312, 2);
        x.days(1);
        plan(x, 2, 101, 0);
    }

    static void theyFade() {
        plan(mill("sf2;tc0;tc4"), 1, 1, 0);
        plan(mill("sf2;tc0;tc4"), 2, 101, 1);
        // both are 0 then
        plan(mill("se0f9;tc9;tc8"), 2, 101, 1);
    }

    static void nGrows() {
        LooseEnds x = alike(3, "sf0");
        Desk.hold(x, "y:n=1?1");
        plan(x, 2, 120, 2);
    }

    static void girlsDoNotMatter() {
        LooseEnds x = alike(4, "sf0g1");
        knot(x, 3, 0);
        due("no GIRL", x.attempt(0, 1), NONE);
        plan(x, 1, 1, 1);
        plan(x, 2, 112, 2);
    }

    static void nothingChanges() {
        LooseEnds x = busy();
        x.plan(1, 0);
        x.plan(2, 0);
        x.plan(2, 1);
        same("as it was", x, busy());
    }
}
