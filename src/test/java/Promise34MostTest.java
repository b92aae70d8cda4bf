/** Promise 34: most. */
public final class Promise34MostTest extends Cases {
    public static void main(String[] args) {
        run(Promise34MostTest.class);
    }

    private static void most(LooseEnds x, int... want) {
        for (int what = 0; what < want.length; what++) {
            due("most(" + what + ")", x.most(what), want[what]);
        }
    }

    static void noMill() {
        most(new LooseEnds(), NONE, NONE, NONE, NONE, NONE, NONE, NONE, NONE, NONE);
    }

    static void noSuchWhat() {
        int[] wrong = {-1, 8, LEAST, MOST};
        for (int what : wrong) {
            refused(Cases::busy, x -> x.most(what), NONE, NO_STATUS);
        }
    }

    static void allAlikeTheLowest() {
        most(alike(7, ""), 0, 0, 0, 127, 0, 0, 0, 0);
        most(alike(2, ""), 0, 0, 0, 3, 0, 0, 0, 0);
    }

    static void theLastOne() {
        most(mill("t;t;t;t;t;t;tl6c11p3"), 6, 6, 6);
    }

    static void ofSeveralTheLowest() {
        most(mill("tl1c1p1;tl2c2p2;tl2c2p2"), 1, 1, 1);
        most(mill("tl20c20p6;tl20c20p6"), 0, 0, 0);
    }

    static void eachByItsOwn() {
        most(mill("tl20;tc20;tp6"), 0, 1, 2);
        most(mill("tp6;tl20;tc20"), 1, 2, 0);
    }

    static void asNow() {
        LooseEnds x = mill("sf2;tl5c10;tl5c9;t");
        knot(x, 0, 1);
        due("BRIGHTEST", x.most(1), 2);
        x.pull(1);
        due("LONGEST", x.most(0), 1);
    }

    static void soldOnesToo() {
        LooseEnds x = mill("sf0;tl9c11p3;tl8c11;t");
        knot(x, 0, 1);
        x.sell(0);
        most(x, 0, 0, 0, 4, 3);
    }

    static void onesOfABiggerMillAreGone() {
        LooseEnds x = mill("t;t;tl20c20p6;tl20c20p6;tl20c20p6;tl20c20p6;tl20c20p6");
        due("LONGEST", x.most(0), 2);
        Desk.tell(x, "t;tl6c11p3");
        most(x, 1, 1, 1, 3, 0, 3, 0, 0);
        due("SHARES of all", x.shares(0, 110), 50);
    }

    static void nothingLoose() {
        // 35 times 7 by 4 is 61
        most(oneTale(7), 0, 0, 0, 0, 0, 0, 1, 61);
        most(oneTale(2), 0, 0, 0, 0, 0, 0, 1, 5);
    }

    static void everythingSold() {
        most(allSold(7), 0, 0, 0, 0, 127, 0, 0, 0);
        most(allSold(2), 0, 0, 0, 0, 3, 0, 0, 0);
    }

    static void looseAreNeitherSoldNorKnotted() {
        due("LOOSE", busy().most(3), 16 + 32 + 64);
        due("SOLD", busy().most(4), 4 + 8);
    }

    static void aSingleLooseOneIsOnTheRack() {
        LooseEnds x = alike(3, "sf0");
        due("none", x.most(5), 0);
        knot(x, 0, 1);
        due("2", x.most(5), 4);
        x.sell(0);
        due("2", x.most(5), 4);
        LooseEnds y = alike(3, "sf0");
        knot(y, 1, 2);
        due("0", y.most(5), 1);
        y.sell(1);
        due("0", y.most(5), 1);
    }

    static void theRackByALawOfN() {
        LooseEnds x = alike(3, "sf0");
        Desk.hold(x, "y:n=1?1");
        due("n is 1", x.most(5), 0);
        Desk.hold(x, "y:n=1?0;y:1");
        due("n is not more", x.most(5), 7);
    }

    static void theRackByWorthOf1And0() {
        due("2 apart", mill("tc10;tc12").most(5), 0);
        due("3 apart", mill("tc10;tc13").most(5), 3);
        due("all seven", mill("tc0;tc3;tc6;tc9;tc12;tc15;tc18").most(5), 127);
    }

    static void theRackAsksTheLooseOnesAlone() {
        LooseEnds x = mill("sf0;tc10;tc10;tc10;tc20;tc20");
        due("none", x.most(5), 0);
        knot(x, 0, 1);
        due("2 goes with knotted ones alone", x.most(5), 4);
    }

    static void talesOfTwoAtLeast() {
        LooseEnds x = alike(7, "sf0g9");
        due("none", x.most(6), 0);
        knot(x, 0, 1);
        knot(x, 2, 3);
        knot(x, 4, 5);
        due("three", x.most(6), 3);
        due("5 each", x.most(7), 15);
        knot(x, 1, 2);
        due("two", x.most(6), 2);
        due("20 and 5", x.most(7), 25);
        x.sell(0);
        due("one", x.most(6), 1);
        due("5", x.most(7), 5);
    }

    static void theMostWorth() {
        LooseEnds x = mill("sf0g9;tl20;tl20;tl20;tl20;tl20;tl20;tl20");
        knot(x, 0, 1, 2, 3, 4, 5, 6);
        due("WORTH", x.most(7), 245);
    }

    static void eachWorthIsCutByItself() {
        // 3 times 2 by 4, twice
        LooseEnds x = mill("sf0;tl1;tl2;tl1;tl2");
        knot(x, 0, 1);
        knot(x, 2, 3);
        due("WORTH", x.most(7), 2);
    }
}
