/** Promise 31: odds. */
public final class Promise31OddsTest extends Cases {
    private static final int ALL = 1000000000;

    public static void main(String[] args) {
        run(Promise31OddsTest.class);
    }

    private static void odds(LooseEnds x, int end, int chance, int want) {
        due("odds(" + end + ", " + chance + ")", x.odds(end, chance), want);
    }

    static void noMill() {
        odds(new LooseEnds(), 0, 0, NONE);
    }

    static void noSuchEnd() {
        int[] wrong = {-1, 7, LEAST, MOST};
        for (int end : wrong) {
            refused(Cases::busy, x -> x.odds(end, 0), NONE, NO_STATUS);
        }
        odds(mill("t;t"), 2, 50, NONE);
    }

    static void outOfBounds() {
        int[] wrong = {-1, 101, LEAST, MOST};
        for (int chance : wrong) {
            refused(Cases::busy, x -> x.odds(4, chance), NONE, NO_STATUS);
        }
    }

    static void sheNeverErrs() {
        odds(alike(2, ""), 0, 0, ALL);
        odds(alike(7, ""), 6, 0, ALL);
    }

    static void sheAlwaysErrs() {
        odds(alike(2, ""), 0, 100, 0);
        odds(alike(7, "sf0"), 3, 100, 0);
    }

    static void sheErrsByOneAndByNinetyNine() {
        odds(alike(2, ""), 0, 1, 990000000);
        odds(alike(2, ""), 0, 99, 10000000);
    }

    static void eachByItself() {
        odds(alike(3, "sf0"), 0, 50, 750000000);
        odds(alike(4, "sf0"), 1, 50, 875000000);
        odds(alike(4, "sf0"), 1, 10, 999000000);
    }

    static void cut() {
        // 70000000, 4900000, 343000, 24010, 1680 of 1680.7, 117 of 117.6
        odds(alike(7, "sf0"), 3, 7, ALL - 117);
        // 10000000, 100000, 1000, 10, 0 of 0.1
        odds(alike(7, "sf0"), 3, 1, ALL);
        odds(alike(5, "sf0"), 3, 1, ALL - 10);
        odds(alike(6, "sf0"), 3, 1, ALL);
        // 990000000, 980100000, 970299000, 960596010, 950990049, 941480148 of 941480148.51
        odds(alike(7, "sf0"), 0, 99, ALL - 941480148);
    }

    static void itGoesWithNone() {
        odds(mill("sf0;tc0;tc20"), 0, 0, 0);
        odds(mill("sf0;tc0;tc20"), 0, 50, 0);
    }

    static void oneBehindItAlready() {
        LooseEnds x = alike(3, "sf0");
        knot(x, 0, 1);
        odds(x, 0, 0, 0);
        odds(x, 1, 0, ALL);
    }

    static void nothingLoose() {
        odds(oneTale(2), 1, 0, 0);
        odds(oneTale(7), 6, 0, 0);
    }

    static void everythingSold() {
        odds(allSold(2), 0, 0, 0);
        odds(allSold(7), 6, 0, 0);
    }

    static void soldOnesAreNotTried() {
        LooseEnds x = alike(4, "sf0");
        knot(x, 0, 1);
        x.sell(0);
        odds(x, 2, 50, 500000000);
    }

    static void onesWithOneAheadAreNotTried() {
        LooseEnds x = alike(4, "sf0");
        knot(x, 0, 1);
        // with 0 and with 3
        odds(x, 2, 50, 750000000);
    }

    static void colourFadesWhereItDoesNotGo() {
        odds(mill("se0;tc10;tc20;tc9"), 0, 0, ALL);
        odds(mill("se0f0;tc10;tc20;tc9"), 0, 0, 0);
    }

    static void colourFadesWhereTheGirlErrs() {
        odds(mill("se0;tc10;tc10;tc10"), 0, 50, 500000000);
        odds(mill("se0;tc10;tc10;tc9"), 0, 50, 750000000);
    }

    static void aColourIs0AtLeast() {
        odds(mill("se0f9;tc5;tc20;tc0"), 0, 0, ALL);
        odds(mill("se0f9;tc0;tc20;tc0;tc0"), 0, 50, 750000000);
    }

    static void onesThatAreNotTriedDoNotFadeIt() {
        LooseEnds x = mill("se0;tc11;tc11;tc10;tc9");
        knot(x, 0, 1);
        due("COLOUR of 0", x.thread(0, 0), 10);
        // 2 is at 10 for 0, not tried with 1, at 9 for 3
        odds(x, 2, 50, 750000000);
    }

    static void theLowestFirst() {
        // 2 (COLOUR 11) is tried with 0 at 11, with 1 at 10
        odds(mill("se0;tc11;tc10;tc11"), 2, 50, 750000000);
        odds(mill("se0;tc10;tc11;tc11"), 2, 50, 0);
    }

    static void girlsDoNotMatter() {
        LooseEnds x = alike(3, "sf0g1");
        knot(x, 0, 1);
        due("no GIRL", x.attempt(1, 2), NONE);
        odds(x, 1, 0, ALL);
        odds(alike(7, "sf0g1"), 0, 10, 999999000);
    }

    static void nIsItsTale() {
        LooseEnds x = alike(4, "sf0");
        knot(x, 0, 1);
        Desk.hold(x, "y:n=2?1");
        odds(x, 1, 50, 750000000);
        odds(x, 2, 50, 0);
    }

    static void lengthAndDayAsNow() {
        LooseEnds x = mill("sf0;tl1;tl2;tl3;tl3");
        x.days(2);
        Desk.hold(x, "y:l=4&t=2?1");
        odds(x, 0, 50, 750000000);
        odds(x, 1, 50, 0);
        x.days(1);
        odds(x, 0, 50, 0);
    }

    static void nothingChanges() {
        LooseEnds x = busy();
        x.odds(4, 50);
        same("as it was", x, busy());
    }
}
