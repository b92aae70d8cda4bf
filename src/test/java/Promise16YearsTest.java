import java.math.BigInteger;

/** Promise 16: years, and paragraph 4 of the Terms. */
public final class Promise16YearsTest extends Cases {
    private static final BigInteger ROUND = BigInteger.ONE.shiftLeft(64);
    private static BigInteger drawn;

    public static void main(String[] args) {
        run(Promise16YearsTest.class);
    }

    private static LooseEnds late(int day) {
        return on(day, "t;t;t");
    }

    static void noMill() {
        refused(LooseEnds::new, x -> x.years(1, 1), NONE, NO_STATUS);
        refused(LooseEnds::new, x -> x.years(0, 1), NONE, NO_STATUS);
        refused(LooseEnds::new, x -> x.years(60, 1), NONE, NO_STATUS);
    }

    static void outOfBounds() {
        int[] wrong = {0, -1, 61, LEAST, MOST};
        for (int n : wrong) {
            refused(Cases::busy, x -> x.years(n, 1), NONE, NO_STATUS);
        }
    }

    static void oneAndSixty() {
        LooseEnds x = mill("t;t");
        due("years(1)", x.years(1, 5), 1);
        due("years(60)", x.years(60, 5), 61);
        due("DAY", x.count(4), 61);
    }

    static void upTo999() {
        due("998 and 1", late(998).years(1, 5), 999);
        due("939 and 60", late(939).years(60, 5), 999);
    }

    static void beyond999() {
        refused(() -> late(999), x -> x.years(1, 5), NONE, NO_STATUS);
        refused(() -> late(998), x -> x.years(2, 5), NONE, NO_STATUS);
        refused(() -> late(940), x -> x.years(60, 5), NONE, NO_STATUS);
        refused(() -> late(999), x -> x.years(61, 5), NONE, NO_STATUS);
    }

    // ---- draws

    private static int draw(int j) {
        drawn = drawn.multiply(new BigInteger("6364136223846793005")).add(new BigInteger("1442695040888963407")).mod(ROUND);
        return drawn.shiftRight(33).mod(BigInteger.valueOf(j)).intValue();
    }

    /** The calls that YEARS stand for. */
    private static void byCalls(LooseEnds x, int n, long seed) {
        drawn = BigInteger.valueOf(seed).mod(ROUND);
        for (int day = 0; day < n; day++) {
            for (int i = 0; i < 3; i++) {
                int one = draw(x.count(0));
                x.attempt(one, draw(x.count(0)));
            }
            if (draw(10) < x.count(6)) {
                x.pull(draw(x.count(0)));
            }
            x.days(1);
        }
    }

    private static void asByCalls(String mill, int wakes, int n, long seed) {
        LooseEnds x = mill(mill);
        LooseEnds y = mill(mill);
        x.wakes(wakes);
        y.wakes(wakes);
        due("years(" + n + ", " + seed + ")", x.years(n, seed), n);
        byCalls(y, n, seed);
        for (int end = 0; end < x.count(0); end++) {
            for (int what = 0; what < 6; what++) {
                due("thread(" + end + ", " + what + ")", x.thread(end, what), y.thread(end, what));
            }
        }
        for (int i = 0; i < n; i++) {
            for (int what = 0; what < 3; what++) {
                due("log(" + i + ", " + what + ")", x.log(i, what), y.log(i, what));
            }
        }
        due("COINS", x.rule(3), y.rule(3));
        status(x, 0, 0, 0, 0, 0);
    }

    static void drawsForEachOfWakes() {
        for (int wakes = 0; wakes <= 9; wakes++) {
            asByCalls("sf0;tl9;tl8;tp3;t;t", wakes, 12, 1000 + wakes);
            asByCalls("sg3;tc9l9;tc11l8;tc10p3;t;tc13l12", wakes, 12, -77 * wakes);
        }
    }

    static void drawsForEachNumberOfEnds() {
        for (int ends = 2; ends <= 7; ends++) {
            asByCalls("sf0;" + "t;".repeat(ends - 1) + "t", 5, 10, 31L * ends);
        }
    }

    static void drawsBySeedsAtTheEdges() {
        long[] seeds = {0, 1, -1, Long.MIN_VALUE, Long.MAX_VALUE, 1L << 32, 1L << 33, -(1L << 33), 1L << 31, LEAST, MOST};
        for (long seed : seeds) {
            asByCalls("sf0g9;t;t;t;t;t;t;t", 4, 10, seed);
        }
    }

    static void drawsByFewAndManyGirls() {
        for (int girls = 1; girls <= 9; girls++) {
            asByCalls("sf0g" + girls + ";tc0;tc20;tc5;tc15", 3, 10, 7 * girls);
        }
    }

    static void eachCallBeginsWithItsSeed() {
        LooseEnds x = mill("sf0;t;t;t;t;t");
        LooseEnds y = mill("sf0;t;t;t;t;t");
        x.years(3, 11);
        x.years(3, 11);
        byCalls(y, 3, 11);
        byCalls(y, 3, 11);
        for (int end = 0; end < 5; end++) {
            for (int what = 0; what < 6; what++) {
                due("thread(" + end + ", " + what + ")", x.thread(end, what), y.thread(end, what));
            }
        }
    }

    // ---- a TRY, a PULL, if it can be

    static void threeTriesADayAtMost() {
        LooseEnds x = mill("sf0g9;tc0;tc10;tc20;tc5;tc15;tp5;tp6c0");
        x.years(60, 3);
        int most = 0;
        for (int i = 0; i < 60; i++) {
            most = Math.max(most, x.log(i, 0));
        }
        due("TRIES of a DAY", most, 3);
    }

    static void noMoreTriesThanGirls() {
        LooseEnds x = mill("sf0g1;tc0;tc10;tc20;tc5;tc15;tp5;tp6c0");
        x.years(60, 3);
        int most = 0;
        for (int i = 0; i < 60; i++) {
            most = Math.max(most, x.log(i, 0));
        }
        due("TRIES of a DAY", most, 1);
    }

    static void triesOfTheDayCountForGirls() {
        LooseEnds x = mill("sf0g1;tc0;tc20");
        x.attempt(0, 1);
        x.years(2, 3);
        due("TRIES of the first DAY", x.log(1, 0), 1);
        due("COLOUR", x.thread(0, 0), 0);
    }

    static void wakes0PullsNobody() {
        LooseEnds x = oneTale(7);
        x.wakes(0);
        x.years(60, 8);
        due("one TALE", x.story(0, 2), 7);
        due("TRIES of the first DAY", x.log(59, 0), 6);
        due("TRIES of the last DAY", x.log(0, 0), 0);
    }

    /** The first seeds for which the draw of 10 is 8, and 9: it is below 9, and it is not. */
    static void wakes9PullsBelow9() {
        boolean[] had = new boolean[10];
        for (long seed = 0; seed < 200; seed++) {
            drawn = BigInteger.valueOf(seed);
            for (int i = 0; i < 6; i++) {
                draw(2);
            }
            int ten = draw(10);
            if (!had[ten]) {
                had[ten] = true;
                LooseEnds x = oneTale(2);
                x.wakes(9);
                x.years(1, seed);
                due("a draw of " + ten, x.story(0, 2), ten < 9 ? 1 : 2);
            }
        }
        due("a draw of 8", had[8], true);
        due("a draw of 9", had[9], true);
    }

    static void everythingSold() {
        LooseEnds x = allSold(7);
        int coins = x.rule(3);
        x.wakes(9);
        due("years", x.years(60, 4), 60);
        for (int end = 0; end < 7; end++) {
            thread(x, end, 10, 2, 5, 1, end < 6 ? end + 1 : NONE, end - 1);
        }
        due("COINS", x.rule(3), coins + 60);
        due("TRIES", x.log(0, 0), 0);
        due("KNOTS", x.log(0, 1), 0);
        status(x, 0, 0, 0, 0, 0);
    }

    static void coins9999AtMost() {
        LooseEnds x = rich(9998, "t;t");
        x.years(3, 4);
        due("COINS", x.rule(3), 9999);
        due("in the LOG", x.log(0, 2), 9999);
        due("at first", x.log(2, 2), 9998);
    }

    static void noStatus() {
        LooseEnds x = mill("sg1;t;t");
        x.years(60, 9);
        x.years(61, 9);
        x.years(0, 9);
        status(x, 0, 0, 0, 0, 0);
    }

    // ---- ACTS

    static void eachDayWithWhatIsAheadOfItIsOneAct() {
        for (int n = 1; n <= 8; n++) {
            LooseEnds x = mill("sf1g9;tc9l9;tc11l8;tc10p3;t;tc13l12");
            LooseEnds y = mill("sf1g9;tc9l9;tc11l8;tc10p3;t;tc13l12");
            x.wakes(9);
            y.wakes(9);
            x.years(n, 40);
            due("ACTS", x.count(9), n);
            due("undo", x.undo(), n - 1);
            if (n > 1) {
                y.years(n - 1, 40);
            }
            same("one DAY is UNDONE", x, y);
        }
    }

    static void fortyActsOfSixtyDays() {
        LooseEnds x = mill("sf0;t;t;t;t");
        LooseEnds y = mill("sf0;t;t;t;t");
        x.years(60, 12);
        due("ACTS", x.count(9), 40);
        for (int left = 39; left >= 0; left--) {
            due("undo", x.undo(), left);
        }
        due("none", x.undo(), NONE);
        y.years(20, 12);
        for (int end = 0; end < 4; end++) {
            for (int what = 0; what < 6; what++) {
                due("thread(" + end + ", " + what + ")", x.thread(end, what), y.thread(end, what));
            }
        }
        due("DAY", x.count(4), 20);
    }
}
