/** Promise 19: log. */
public final class Promise19LogTest extends Cases {
    public static void main(String[] args) {
        run(Promise19LogTest.class);
    }

    private static LooseEnds threeDays() {
        LooseEnds x = mill("sk0;t;t");
        x.days(3);
        return x;
    }

    static void noMill() {
        due("log(0, 0)", new LooseEnds().log(0, 0), NONE);
    }

    static void noDayYet() {
        LooseEnds x = mill("t;t");
        x.attempt(0, 1);
        for (int what = 0; what < 3; what++) {
            due("log(0, " + what + ")", x.log(0, what), NONE);
        }
    }

    static void noSuchI() {
        int[] wrong = {-1, 3, 60, LEAST, MOST};
        for (int i : wrong) {
            for (int what = 0; what < 3; what++) {
                int asked = what;
                refused(Promise19LogTest::threeDays, x -> x.log(i, asked), NONE, NO_STATUS);
            }
        }
    }

    static void noSuchWhat() {
        int[] wrong = {-1, 3, LEAST, MOST};
        for (int what : wrong) {
            refused(Promise19LogTest::threeDays, x -> x.log(0, what), NONE, NO_STATUS);
        }
    }

    static void theLatestFirst() {
        LooseEnds x = threeDays();
        due("log(0, 2)", x.log(0, 2), 2);
        due("log(1, 2)", x.log(1, 2), 1);
        due("log(2, 2)", x.log(2, 2), 0);
    }

    static void fiftyNineSixtyAndSixtyOne() {
        for (int days = 59; days <= 61; days++) {
            LooseEnds x = mill("sk0;t;t");
            pass(x, days);
            int long60 = Math.min(60, days);
            due("how long", x.count(8), long60);
            due("the latest", x.log(0, 2), days - 1);
            due("the earliest", x.log(long60 - 1, 2), days - long60);
            due("no more", x.log(long60, 2), NONE);
        }
    }

    static void theEarliestIsForgottenFirst() {
        LooseEnds x = mill("sk0;t;t");
        x.attempt(0, 1);
        x.days(60);
        due("TRIES of the first DAY", x.log(59, 0), 1);
        x.days(1);
        due("its TRIES are gone", x.log(59, 0), 0);
        due("all there is", x.log(60, 0), NONE);
    }

    static void onTheLastDay() {
        LooseEnds x = on(999, "sk0;t;t");
        for (int i = 0; i < 60; i++) {
            due("log(" + i + ", 2)", x.log(i, 2), 998 - i);
        }
        due("log(60, 2)", x.log(60, 2), NONE);
    }

    static void nineTries() {
        LooseEnds x = mill("sf0g9;tc0;tc20");
        for (int i = 0; i < 10; i++) {
            x.attempt(0, 1);
        }
        x.days(1);
        due("TRIES", x.log(0, 0), 9);
        due("KNOTS", x.log(0, 1), 0);
    }

    static void knotsByTheOneAhead() {
        LooseEnds x = alike(7, "sf0g9");
        knot(x, 6, 0);
        knot(x, 0, 3);
        x.attempt(0, 0);
        x.days(1);
        due("KNOTS", x.log(0, 1), 64 + 1);
        due("TRIES", x.log(0, 0), 2);
    }

    static void knotsThatHaveComeOffSinceToo() {
        LooseEnds x = alike(3, "sf0g9");
        knot(x, 0, 1);
        x.pull(1);
        knot(x, 2, 0);
        x.pull(2);
        x.days(1);
        due("KNOTS", x.log(0, 1), 1 + 4);
    }

    static void theSameKnotTwice() {
        LooseEnds x = alike(2, "sf0g9");
        knot(x, 0, 1);
        x.pull(0);
        knot(x, 0, 1);
        x.days(1);
        due("KNOTS", x.log(0, 1), 1);
        due("TRIES", x.log(0, 0), 2);
    }

    static void knotsOfOtherDaysAreNotInIt() {
        LooseEnds x = alike(4, "sf0");
        knot(x, 0, 1);
        x.days(1);
        knot(x, 2, 3);
        x.days(1);
        due("KNOTS", x.log(0, 1), 4);
        due("KNOTS of the DAY ahead", x.log(1, 1), 1);
    }

    static void coinsAsTheyAreThen() {
        LooseEnds x = mill("sk7;t;t");
        x.give(5);
        x.dye(0, 0);
        x.days(1);
        due("COINS", x.log(0, 2), 10);
        x.give(50);
        due("they stay so", x.log(0, 2), 10);
    }

    static void coinsOf9999() {
        LooseEnds x = rich(9999, "t;t");
        x.days(2);
        due("COINS", x.log(0, 2), 9999);
        due("COINS", x.log(1, 2), 9999);
    }

    static void soBackAgain() {
        LooseEnds x = threeDays();
        x.image();
        x.give(9);
        x.days(5);
        x.back();
        due("how long", x.count(8), 3);
        due("log(0, 2)", x.log(0, 2), 2);
        due("log(3, 2)", x.log(3, 2), NONE);
    }

    static void goneWithTheMill() {
        LooseEnds x = threeDays();
        Desk.tell(x, "t;t");
        due("log(0, 0)", x.log(0, 0), NONE);
        x.days(1);
        due("log(1, 0)", x.log(1, 0), NONE);
    }
}
