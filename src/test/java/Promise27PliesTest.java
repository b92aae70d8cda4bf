/** Promise 27: plies. */
public final class Promise27PliesTest extends Cases {
    public static void main(String[] args) {
        run(Promise27PliesTest.class);
    }

    private static void plies(LooseEnds x, int end, int... want) {
        due("how many of " + end, x.plies(end, NONE), want.length);
        for (int i = 0; i < want.length; i++) {
            due("plies(" + end + ", " + i + ")", x.plies(end, i), want[i]);
        }
        int[] none = {want.length, want.length + 1, -2, LEAST, MOST};
        for (int i : none) {
            due("plies(" + end + ", " + i + ")", x.plies(end, i), NONE);
        }
    }

    static void noMill() {
        due("how many", new LooseEnds().plies(0, NONE), NONE);
        due("the first", new LooseEnds().plies(0, 0), NONE);
    }

    static void noSuchEnd() {
        int[] wrong = {-1, 7, LEAST, MOST};
        for (int end : wrong) {
            refused(Cases::busy, x -> x.plies(end, NONE), NONE, NO_STATUS);
            refused(Cases::busy, x -> x.plies(end, 0), NONE, NO_STATUS);
        }
        due("of two ENDS", mill("t;t").plies(2, NONE), NONE);
    }

    static void noSuchOne() {
        int[] wrong = {6, 7, -2, LEAST, MOST};
        for (int i : wrong) {
            refused(Cases::busy, x -> x.plies(6, i), NONE, NO_STATUS);
        }
    }

    static void nothingSeen() {
        plies(mill("t;tp6"), 0, 1, 2, 3, 4, 5, 6);
        plies(mill("t;tp6"), 1, 1, 2, 3, 4, 5, 6);
    }

    static void oneAlone() {
        LooseEnds x = mill("se0;t;t");
        x.seen(0, 1, true);
        plies(x, 0, 2);
        plies(x, 1, 2);
    }

    static void allButOne() {
        LooseEnds x = mill("se0;tp6;tp1");
        x.seen(0, 1, false);
        plies(x, 0, 2, 3, 4, 5, 6);
        plies(x, 1, 1, 2, 3, 4, 5);
    }

    static void none() {
        LooseEnds x = mill("t;t");
        x.seen(0, 1, true);
        x.seen(0, 1, false);
        plies(x, 0);
        plies(x, 1);
        LooseEnds y = mill("tc0;tc20");
        y.seen(0, 1, true);
        plies(y, 0);
    }

    static void fromOneToSix() {
        LooseEnds x = mill("se9;tp1;tp6");
        x.seen(0, 1, true);
        plies(x, 0, 2, 3, 4, 5, 6);
        plies(x, 1, 1, 2, 3, 4, 5);
    }

    static void seenAsTheOneAheadAndAsTheOneBehind() {
        LooseEnds x = mill("t;t;t");
        x.seen(0, 1, true);
        x.seen(2, 0, true);
        plies(x, 0, 1, 2, 3);
        plies(x, 1, 1, 2, 3);
        plies(x, 2, 1, 2, 3);
    }

    static void allThatIsSeenWithIt() {
        LooseEnds x = mill("t;tp2;tp4");
        x.seen(0, 1, true);
        x.seen(0, 2, true);
        plies(x, 0, 3);
        plies(x, 1, 1, 2, 3);
    }

    static void whatIsSeenOfOthersDoesNotMatter() {
        LooseEnds x = mill("t;t;t");
        x.seen(0, 1, true);
        x.seen(0, 1, false);
        plies(x, 2, 1, 2, 3, 4, 5, 6);
    }

    static void coloursAsTold() {
        LooseEnds x = mill("tc10;tc11");
        x.seen(0, 1, true);
        plies(x, 0, 2);
        x.dye(0, 11);
        x.dye(1, 20);
        plies(x, 0, 2);
    }

    static void aloneOnDay0WithLengthsAsTold() {
        LooseEnds x = mill("sf0;tl4;tl4;t");
        x.seen(0, 1, true);
        Desk.addLaw(x, "y:n=1&t=0&l=8?3-2*p");
        knot(x, 0, 1);
        x.pull(0);
        knot(x, 0, 1);
        x.days(3);
        x.law(0);
        due("now they do not go", x.fits(0, 1), 0);
        plies(x, 0, 1, 2, 3);
        x.sell(0);
        plies(x, 0, 1, 2, 3);
    }

    static void byTheLawThatHolds() {
        LooseEnds x = mill("t;t");
        x.seen(0, 1, true);
        plies(x, 0, 1, 2, 3);
        Desk.hold(x, "y:p=4?1");
        plies(x, 0, 6);
        Desk.hold(x, "y:1");
        plies(x, 0, 1, 2, 3, 4, 5, 6);
        Desk.hold(x, "y:0");
        plies(x, 0);
        x.law(NONE);
        plies(x, 0, 1, 2, 3);
    }

    static void everythingSold() {
        LooseEnds x = allSold(2);
        plies(x, 0, 1, 2, 3, 4, 5, 6);
        x.seen(0, 1, true);
        plies(x, 0, 1, 2, 3);
    }

    static void thePlyItHasDoesNotChange() {
        LooseEnds x = mill("se0;tp5;t");
        x.seen(0, 1, true);
        plies(x, 0, 2);
        due("PLY", x.thread(0, 1), 5);
        plies(x, 1, 5);
    }
}
