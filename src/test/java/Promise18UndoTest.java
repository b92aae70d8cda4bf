/** Promise 18: undo. */
public final class Promise18UndoTest extends Cases {
    public static void main(String[] args) {
        run(Promise18UndoTest.class);
    }

    private static LooseEnds given(int acts) {
        LooseEnds x = mill("sk0;t;t");
        for (int i = 0; i < acts; i++) {
            x.give(1);
        }
        return x;
    }

    static void noneYet() {
        due("no MILL", new LooseEnds().undo(), NONE);
        refused(() -> mill("t;t"), x -> x.undo(), NONE, NO_STATUS);
    }

    static void noneLeft() {
        LooseEnds x = given(1);
        due("the one", x.undo(), 0);
        due("none", x.undo(), NONE);
        due("none", x.undo(), NONE);
        due("COINS", x.rule(3), 0);
    }

    static void howManyStillCanBe() {
        LooseEnds x = given(5);
        for (int left = 4; left >= 0; left--) {
            due("undo", x.undo(), left);
            due("ACTS", x.count(9), left);
            due("COINS", x.rule(3), left);
        }
    }

    private static void all(LooseEnds x, int acts, int coins) {
        due("ACTS", x.count(9), acts);
        for (int left = acts - 1; left >= 0; left--) {
            due("undo", x.undo(), left);
        }
        due("no more", x.undo(), NONE);
        due("COINS", x.rule(3), coins);
    }

    static void thirtyNine() {
        all(given(39), 39, 0);
    }

    static void forty() {
        all(given(40), 40, 0);
    }

    static void ofFortyOneTheFirstIsForgotten() {
        all(given(41), 40, 1);
    }

    static void ofAHundredTheFirstSixtyAreForgotten() {
        all(given(100), 40, 60);
    }

    static void goingRound() {
        LooseEnds x = given(45);
        for (int i = 0; i < 10; i++) {
            x.undo();
        }
        due("ACTS", x.count(9), 30);
        for (int i = 0; i < 9; i++) {
            x.give(2);
        }
        due("COINS", x.rule(3), 35 + 18);
        all(x, 39, 5);
        LooseEnds y = given(45);
        for (int i = 0; i < 10; i++) {
            y.undo();
        }
        for (int i = 0; i < 20; i++) {
            y.give(2);
        }
        // 30 old ones and 20 new ones: the first ten of the old ones are forgotten
        all(y, 40, 15);
    }

    static void sixtyDaysAreSixtyActs() {
        LooseEnds x = mill("sk0;t;t");
        x.days(60);
        all(x, 40, 20);
        due("DAY", x.count(4), 20);
    }

    static void theLogToo() {
        LooseEnds x = mill("sk5;t;t;t");
        knot(x, 0, 1);
        x.days(1);
        x.attempt(1, 2);
        x.days(1);
        x.undo();
        due("LOG", x.count(8), 1);
        due("KNOTS of the first DAY", x.log(0, 1), 1);
        due("no second one", x.log(1, 1), NONE);
        due("TRIES of the DAY", x.count(5), 1);
        x.undo();
        x.undo();
        due("no LOG", x.count(8), 0);
        due("nothing in it", x.log(0, 0), NONE);
        due("TRIES of the DAY", x.count(5), 1);
    }

    static void knotsOfTheDayToo() {
        LooseEnds x = mill("t;t;t");
        knot(x, 0, 1);
        knot(x, 1, 2);
        x.undo();
        x.days(1);
        due("KNOTS", x.log(0, 1), 1);
        due("TRIES", x.log(0, 0), 1);
    }

    static void knotsOfADayThatIsUndone() {
        LooseEnds x = mill("t;t;t");
        knot(x, 0, 1);
        x.days(1);
        x.undo();
        knot(x, 1, 2);
        x.days(1);
        due("KNOTS", x.log(0, 1), 3);
        due("TRIES", x.log(0, 0), 2);
    }

    static void whatAFullLogForgotIsThereAgain() {
        LooseEnds x = mill("sk0;t;t");
        x.days(60);
        x.days(1);
        due("the first DAY is gone", x.log(59, 2), 1);
        x.undo();
        due("it is there again", x.log(59, 2), 0);
        due("sixty", x.log(60, 2), NONE);
        pass(x, 140);
        for (int i = 0; i < 40; i++) {
            x.undo();
        }
        due("DAY", x.count(4), 160);
        for (int i = 0; i < 60; i++) {
            due("log(" + i + ", 2)", x.log(i, 2), 159 - i);
        }
    }

    static void eachKindOfAct() {
        LooseEnds x = busy();
        LooseEnds y = busy();
        x.attempt(4, 0);
        x.undo();
        same("a TRY", x, y);
        x.attempt(5, 6);
        x.undo();
        same("a TRY in vain", x, y);
        x.pull(0);
        x.undo();
        same("a PULL", x, y);
        x.sell(0);
        x.undo();
        same("a SALE", x, y);
    }

    static void eachOtherKindOfAct() {
        LooseEnds x = busy();
        LooseEnds y = busy();
        x.dye(5, 1);
        x.undo();
        same("DYED", x, y);
        x.give(50);
        x.undo();
        same("given", x, y);
        x.days(1);
        x.undo();
        same("a DAY", x, y);
        x.years(1, 77);
        x.undo();
        same("a YEAR", x, y);
    }

    static void refusedActsAreNone() {
        LooseEnds x = given(2);
        x.give(0);
        x.give(51);
        x.pull(0);
        x.sell(0);
        x.dye(0, 10);
        x.days(0);
        x.attempt(0, 0);
        x.years(0, 0);
        due("ACTS", x.count(9), 2);
        due("undo", x.undo(), 1);
        due("COINS", x.rule(3), 1);
    }

    static void whatIsNoActIsNotUndone() {
        LooseEnds x = given(1);
        x.wakes(5);
        x.seen(0, 1, true);
        Desk.hold(x, "y:0");
        Desk.feed(x, "abc");
        x.image();
        due("undo", x.undo(), 0);
        due("WAKES", x.count(6), 5);
        due("SEEN", x.count(7), 1);
        due("LAWS", x.count(1), 1);
        due("which holds", x.count(3), 0);
        due("TAPE", x.count(2), 3);
        due("the IMAGE", x.back(), 0);
        due("COINS of the IMAGE", x.rule(3), 1);
    }

    static void behindBackThereIsNone() {
        LooseEnds x = given(5);
        x.image();
        x.give(1);
        x.back();
        due("undo", x.undo(), NONE);
        due("ACTS", x.count(9), 0);
        x.give(1);
        due("one more", x.undo(), 0);
        due("COINS", x.rule(3), 5);
    }

    static void behindAnotherMillThereIsNone() {
        LooseEnds x = given(5);
        Desk.tell(x, "t;t");
        due("undo", x.undo(), NONE);
    }

    static void undoneOnTheLastDay() {
        LooseEnds x = on(999, "t;t");
        due("undo", x.undo(), 39);
        due("DAY", x.count(4), 998);
        due("days(1)", x.days(1), 999);
    }
}
