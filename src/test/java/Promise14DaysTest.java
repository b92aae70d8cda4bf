/** Promise 14: days, and what paragraph 2 of the Terms says of a DAY. */
public final class Promise14DaysTest extends Cases {
    public static void main(String[] args) {
        run(Promise14DaysTest.class);
    }

    private static LooseEnds late(int day) {
        return on(day, "t;t;t");
    }

    static void noMill() {
        refused(LooseEnds::new, x -> x.days(1), NONE, 0);
        refused(LooseEnds::new, x -> x.days(0), NONE, 0);
        refused(LooseEnds::new, x -> x.days(61), NONE, 0);
    }

    static void outOfBounds() {
        int[] wrong = {0, -1, 61, LEAST, MOST};
        for (int n : wrong) {
            refused(Cases::busy, x -> x.days(n), NONE, 1);
        }
    }

    static void oneAndSixty() {
        LooseEnds x = mill("t;t");
        due("days(1)", x.days(1), 1);
        due("days(60)", x.days(60), 61);
    }

    static void day0AtFirst() {
        due("DAY", mill("t;t").count(4), 0);
    }

    static void upTo999() {
        due("998 and 1", late(998).days(1), 999);
        due("939 and 60", late(939).days(60), 999);
    }

    static void beyond999() {
        refused(() -> late(999), x -> x.days(1), NONE, 4);
        refused(() -> late(998), x -> x.days(2), NONE, 4);
        refused(() -> late(940), x -> x.days(60), NONE, 4);
        refused(() -> late(999), x -> x.days(60), NONE, 4);
    }

    static void outOfBoundsAheadOfBeyond() {
        refused(() -> late(999), x -> x.days(61), NONE, 1);
        refused(() -> late(999), x -> x.days(0), NONE, 1);
        refused(() -> late(999), x -> x.days(MOST), NONE, 1);
    }

    static void noTriesAnyMore() {
        LooseEnds x = mill("sg1;t;t;t");
        knot(x, 0, 1);
        due("TRIES", x.count(5), 1);
        x.days(1);
        due("TRIES", x.count(5), 0);
        due("a GIRL", x.attempt(1, 2), 1);
    }

    static void oneCoinMoreEachDay() {
        LooseEnds x = mill("sk0;t;t");
        x.days(1);
        due("COINS", x.rule(3), 1);
        x.days(60);
        due("COINS", x.rule(3), 61);
    }

    static void coins9999AtMost() {
        LooseEnds x = rich(9998, "t;t");
        x.days(1);
        due("9,998", x.rule(3), 9999);
        x.days(1);
        due("9,999", x.rule(3), 9999);
        due("DAY", x.count(4), 2);
        due("the LOG has them", x.log(0, 2), 9999);
        due("and those ahead", x.log(1, 2), 9998);
        x.undo();
        x.undo();
        due("UNDONE", x.rule(3), 9998);
    }

    static void theLogHasTheDayAsItWas() {
        LooseEnds x = mill("sk7;t;t;tc20");
        x.attempt(1, 0);
        x.attempt(0, 2);
        x.days(2);
        due("TRIES", x.log(1, 0), 2);
        due("KNOTS", x.log(1, 1), 2);
        due("COINS", x.log(1, 2), 7);
        due("TRIES of the next one", x.log(0, 0), 0);
        due("KNOTS of the next one", x.log(0, 1), 0);
        due("COINS of the next one", x.log(0, 2), 8);
    }

    static void nothingElseChanges() {
        LooseEnds x = busy();
        x.days(1);
        thread(x, 0, 9, 2, 5, 0, 1, NONE);
        thread(x, 2, 9, 2, 7, 1, 3, NONE);
        thread(x, 4, 11, 2, 9, 0, NONE, NONE);
        due("SEEN", x.count(7), 2);
        due("TAPE", x.count(2), 4);
    }

    static void eachDayIsOneAct() {
        LooseEnds x = mill("t;t");
        x.days(3);
        due("ACTS", x.count(9), 3);
        due("undo", x.undo(), 2);
        due("DAY", x.count(4), 2);
    }
}
