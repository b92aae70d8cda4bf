/** Promise 36: back. */
public final class Promise36BackTest extends Cases {
    public static void main(String[] args) {
        run(Promise36BackTest.class);
    }

    static void noMill() {
        refused(LooseEnds::new, x -> x.back(), NONE, NO_STATUS);
    }

    static void noImage() {
        refused(() -> mill("t;t"), x -> x.back(), NONE, NO_STATUS);
        LooseEnds x = mill("t;t");
        x.give(1);
        due("back", x.back(), NONE);
        due("the ACT can still be UNDONE", x.undo(), 0);
    }

    static void anImageOfAnotherMill() {
        LooseEnds x = busy();
        x.end(3);
        due("text(0)", x.text(0), 2);
        due("back", x.back(), NONE);
        due("ENDS", x.count(0), 2);
    }

    static void aRefusedMillLeavesTheImage() {
        LooseEnds x = busy();
        due("text(0)", x.text(0), NONE);
        due("back", x.back(), 1);
    }

    static void theDay() {
        LooseEnds x = mill("t;t");
        x.image();
        x.days(5);
        due("DAY 0", x.back(), 0);
        pass(x, 999);
        x.image();
        due("DAY 999", x.back(), 999);
        due("beyond", x.days(1), NONE);
    }

    static void allThatAnImageKeeps() {
        LooseEnds x = mill("sk9f2;tl5;tl6;tl7;tl8;tl9");
        knot(x, 0, 1);
        knot(x, 3, 4);
        x.sell(3);
        x.days(1);
        knot(x, 1, 2);
        x.image();
        x.pull(1);
        x.dye(0, 20);
        x.attempt(0, 2);
        x.attempt(2, 1);
        x.days(2);
        due("back", x.back(), 1);
        thread(x, 0, 8, 2, 5, 0, 1, NONE);
        thread(x, 1, 6, 2, 6, 0, 2, 0);
        thread(x, 2, 8, 2, 7, 0, NONE, 1);
        thread(x, 3, 8, 2, 8, 1, 4, NONE);
        thread(x, 4, 8, 2, 9, 1, NONE, 3);
        // 17 times 2 by 4 is 8
        due("COINS", x.rule(3), 9 + 8 + 1);
        due("TRIES", x.count(5), 1);
        due("LOG", x.count(8), 1);
        due("TRIES of the LOG", x.log(0, 0), 2);
        due("KNOTS of the LOG", x.log(0, 1), 1 + 8);
        due("COINS of the LOG", x.log(0, 2), 17);
        x.days(1);
        due("KNOTS of the DAY", x.log(0, 1), 2);
        due("TRIES of the DAY", x.log(0, 0), 1);
    }

    static void whatWasUnsoldIsUnsoldAgain() {
        LooseEnds x = oneTale(3);
        x.image();
        x.sell(0);
        x.back();
        due("SOLD", x.most(4), 0);
        due("COINS", x.rule(3), 20);
        due("it can be SOLD", x.sell(0), 20 + 11);
    }

    static void anEmptyLogIsEmptyAgain() {
        LooseEnds x = mill("t;t");
        x.image();
        x.days(60);
        x.back();
        due("LOG", x.count(8), 0);
        due("nothing in it", x.log(0, 0), NONE);
    }

    static void aFullLogIsSoAgain() {
        LooseEnds x = mill("sk0;t;t");
        pass(x, 130);
        x.image();
        x.give(50);
        pass(x, 200);
        x.back();
        due("LOG", x.count(8), 60);
        for (int i = 0; i < 60; i++) {
            due("log(" + i + ", 2)", x.log(i, 2), 129 - i);
        }
        due("no more", x.log(60, 2), NONE);
    }

    static void whatWasUndoneAheadOfTheImage() {
        LooseEnds x = mill("sk0;t;t");
        x.days(10);
        x.undo();
        x.give(50);
        x.days(1);
        x.image();
        x.days(5);
        x.back();
        due("DAY", x.count(4), 10);
        due("the latest", x.log(0, 2), 59);
        due("the one ahead", x.log(1, 2), 8);
    }

    static void noActCanBeUndoneThen() {
        LooseEnds x = busy();
        x.back();
        due("ACTS", x.count(9), 0);
        due("undo", x.undo(), NONE);
        x.give(1);
        due("one more", x.undo(), 0);
        due("no more", x.undo(), NONE);
    }

    static void backIsNoAct() {
        LooseEnds x = mill("t;t");
        x.image();
        x.back();
        due("ACTS", x.count(9), 0);
    }

    static void whatAnImageDoesNotKeep() {
        LooseEnds x = mill("t;t");
        x.image();
        x.wakes(8);
        x.seen(0, 1, true);
        Desk.hold(x, "y:0");
        Desk.feed(x, "abc");
        x.give(0);
        x.pull(0);
        x.back();
        due("WAKES", x.count(6), 8);
        due("SEEN", x.count(7), 1);
        due("LAWS", x.count(1), 1);
        due("which holds", x.count(3), 0);
        due("TAPE", x.count(2), 3);
        status(x, 0, 1, 0, 1, 0);
    }

    static void againAndAgain() {
        LooseEnds x = mill("sk0;t;t");
        x.image();
        for (int i = 0; i < 50; i++) {
            x.give(50);
            due("back", x.back(), 0);
            due("COINS", x.rule(3), 0);
        }
    }
}
