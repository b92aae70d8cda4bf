/** Promise 21: could. */
public final class Promise21CouldTest extends Cases {
    public static void main(String[] args) {
        run(Promise21CouldTest.class);
    }

    static void noMill() {
        due("could(0)", new LooseEnds().could(0), NONE);
    }

    static void noSuchEnd() {
        int[] wrong = {-1, 7, LEAST, MOST};
        for (int end : wrong) {
            refused(Cases::busy, x -> x.could(end), NONE, NO_STATUS);
        }
        due("of two ENDS", mill("t;t").could(2), NONE);
    }

    static void allButItself() {
        LooseEnds x = alike(7, "");
        for (int end = 0; end < 7; end++) {
            due("could(" + end + ")", x.could(end), 127 - (1 << end));
        }
    }

    static void itGoesWithNone() {
        LooseEnds x = mill("tc0;tc20;tc10");
        for (int end = 0; end < 3; end++) {
            due("could(" + end + ")", x.could(end), 0);
        }
    }

    static void aWorthOf1And0() {
        due("c 2 and 3 apart", mill("tc10;tc12;tc13;tc8;tc7").could(0), 2 + 8);
    }

    static void oneWithOneBehindIt() {
        LooseEnds x = oneTale(2);
        due("could(0)", x.could(0), 0);
        due("could(1)", x.could(1), 0);
    }

    static void noneThatHasOneAhead() {
        LooseEnds x = alike(4, "sf0");
        knot(x, 0, 1);
        due("could(2)", x.could(2), 1 + 8);
    }

    static void noneOfItsOwnTale() {
        LooseEnds x = alike(4, "sf0");
        knot(x, 0, 1, 2);
        due("could(2)", x.could(2), 8);
    }

    static void noneThatIsSold() {
        LooseEnds x = alike(4, "sf0");
        knot(x, 0, 1);
        x.sell(0);
        due("could(2)", x.could(2), 8);
        due("could(3)", x.could(3), 4);
    }

    static void soldItself() {
        LooseEnds x = alike(4, "sf0");
        knot(x, 0, 1);
        x.sell(0);
        due("the first", x.could(0), 0);
        due("the last", x.could(1), 0);
    }

    static void everythingSold() {
        LooseEnds x = allSold(7);
        for (int end = 0; end < 7; end++) {
            due("could(" + end + ")", x.could(end), 0);
        }
    }

    static void nothingLoose() {
        LooseEnds x = alike(4, "sf0");
        knot(x, 0, 1);
        knot(x, 2, 3);
        int[] want = {0, 4, 0, 1};
        for (int end = 0; end < 4; end++) {
            due("could(" + end + ")", x.could(end), want[end]);
        }
    }

    static void girlsDoNotMatter() {
        LooseEnds x = alike(3, "sf0g1");
        knot(x, 0, 1);
        due("no GIRL", x.attempt(1, 2), NONE);
        due("could(1)", x.could(1), 4);
    }

    static void nIsItsTale() {
        LooseEnds x = alike(3, "sf0");
        knot(x, 0, 1);
        Desk.hold(x, "y:n=2?1");
        due("of two", x.could(1), 4);
        due("a single one", x.could(2), 0);
    }
}
