/** Promise 13: give. */
public final class Promise13GiveTest extends Cases {
    public static void main(String[] args) {
        run(Promise13GiveTest.class);
    }

    private static LooseEnds have(int coins) {
        return rich(coins, "t;t");
    }

    static void noMill() {
        refused(LooseEnds::new, x -> x.give(1), NONE, 0);
        refused(LooseEnds::new, x -> x.give(50), NONE, 0);
    }

    static void noMillAheadOfOutOfBounds() {
        refused(LooseEnds::new, x -> x.give(0), NONE, 0);
        refused(LooseEnds::new, x -> x.give(51), NONE, 0);
    }

    static void outOfBounds() {
        int[] wrong = {0, -1, 51, LEAST, MOST};
        for (int n : wrong) {
            refused(Cases::busy, x -> x.give(n), NONE, 1);
        }
    }

    static void oneAndFifty() {
        LooseEnds x = mill("sk0;t;t");
        due("give(1)", x.give(1), 1);
        due("give(50)", x.give(50), 51);
        due("COINS", x.rule(3), 51);
    }

    static void upTo9999() {
        due("9,949 and 50", have(9949).give(50), 9999);
        due("9,998 and 1", have(9998).give(1), 9999);
    }

    static void above9999() {
        LooseEnds x = have(9950);
        due("9,950 and 50", x.give(50), NONE);
        status(x, 0, 1, 0, 0, 0);
        due("nothing is given", x.rule(3), 9950);
        due("as much as goes in", x.give(49), 9999);
        due("one more", x.give(1), NONE);
        due("fifty more", x.give(50), NONE);
        status(x, 0, 3, 0, 0, 0);
        due("COINS", x.rule(3), 9999);
    }

    static void above9999IsNoAct() {
        LooseEnds x = have(9999);
        int acts = x.count(9);
        x.give(1);
        due("ACTS", x.count(9), acts);
        x.undo();
        due("the one ahead is UNDONE", x.rule(3), 9949);
    }

    static void onTheLastDay() {
        due("give", on(999, "t;t").give(1), 20 + 999 + 1);
    }

    static void givingIsOneAct() {
        LooseEnds x = mill("t;t");
        x.give(50);
        due("ACTS", x.count(9), 1);
        x.undo();
        due("COINS", x.rule(3), 20);
    }
}
