/** Promise 6: rule. */
public final class Promise06RuleTest extends Cases {
    public static void main(String[] args) {
        run(Promise06RuleTest.class);
    }

    private static void rules(String mill, int... want) {
        LooseEnds x = mill(mill);
        for (int what = 0; what < 4; what++) {
            due("rule(" + what + ") of " + mill, x.rule(what), want[what]);
        }
    }

    static void noMill() {
        for (int what = -1; what < 5; what++) {
            due("rule(" + what + ")", new LooseEnds().rule(what), NONE);
        }
    }

    static void noSuchWhat() {
        int[] wrong = {-1, 4, LEAST, MOST};
        for (int what : wrong) {
            refused(Cases::busy, x -> x.rule(what), NONE, NO_STATUS);
        }
    }

    static void withoutItems() {
        rules("t;t", 2, 1, 4, 20);
        rules("s;t;t", 2, 1, 4, 20);
    }

    static void theLeast() {
        rules("se0f0g1k0;t;t", 0, 0, 1, 0);
    }

    static void theMost() {
        rules("se9f9g9k99;t;t", 9, 9, 9, 99);
    }

    static void oneItemLeavesTheOthers() {
        rules("se7;t;t", 7, 1, 4, 20);
        rules("sf7;t;t", 2, 7, 4, 20);
        rules("sg7;t;t", 2, 1, 7, 20);
        rules("sk7;t;t", 2, 1, 4, 7);
    }

    static void whereverTheRulesStand() {
        rules("t;sk3e4;t", 4, 1, 4, 3);
        rules("t;t;sg2f3", 2, 3, 2, 20);
    }

    static void coinsAsTheyAreNow() {
        LooseEnds x = mill("sk0;t;t");
        x.give(3);
        due("given", x.rule(3), 3);
        x.dye(0, 1);
        due("DYED", x.rule(3), 1);
        x.days(1);
        due("a DAY", x.rule(3), 2);
        x.undo();
        due("UNDONE", x.rule(3), 1);
    }
}
