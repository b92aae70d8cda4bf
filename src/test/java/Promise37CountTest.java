/** Promise 37: count. */
public final class Promise37CountTest extends Cases {
    public static void main(String[] args) {
        run(Promise37CountTest.class);
    }

    static void others() {
        int[] wrong = {-1, 10, 11, LEAST, MOST};
        for (int what : wrong) {
            refused(Cases::busy, x -> x.count(what), HIDDEN, NO_STATUS);
            due("no MILL", new LooseEnds().count(what), HIDDEN);
        }
    }

    static void noMill() {
        int[] want = {0, 0, 0, NONE, 0, 0, 1, 0, 0, 0};
        for (int what = 0; what < 10; what++) {
            due("count(" + what + ")", new LooseEnds().count(what), want[what]);
        }
    }

    static void ofBusy() {
        int[] want = {7, 2, 4, NONE, 1, 1, 1, 2, 1, 6};
        for (int what = 0; what < 10; what++) {
            due("count(" + what + ")", busy().count(what), want[what]);
        }
    }

    static void ends() {
        due("two", alike(2, "").count(0), 2);
        due("seven", alike(7, "").count(0), 7);
        due("SOLD ones, too", allSold(7).count(0), 7);
    }

    static void laws() {
        LooseEnds x = new LooseEnds();
        for (int laws = 0; laws < 4; laws++) {
            due("LAWS", x.count(1), laws);
            Desk.addLaw(x, "y:1");
        }
        due("LAWS", x.count(1), 4);
        Desk.feed(x, "y:1");
        x.text(1);
        due("no fifth", x.count(1), 4);
    }

    static void bytes() {
        LooseEnds x = new LooseEnds();
        due("none", x.count(2), 0);
        Desk.feed(x, "x".repeat(240));
        due("full", x.count(2), 240);
        x.feed(1, 0, 0, 0, 0);
        due("no more", x.count(2), 240);
        x.end(0);
        due("cut", x.count(2), 0);
    }

    static void theLawThatHolds() {
        LooseEnds x = new LooseEnds();
        for (int law = 0; law < 4; law++) {
            Desk.addLaw(x, "y:1");
        }
        due("none", x.count(3), NONE);
        x.law(3);
        due("the last", x.count(3), 3);
        x.law(0);
        due("the first", x.count(3), 0);
        x.law(NONE);
        due("none", x.count(3), NONE);
    }

    static void theDay() {
        LooseEnds x = mill("t;t");
        due("DAY 0", x.count(4), 0);
        pass(x, 999);
        due("DAY 999", x.count(4), 999);
        x.days(1);
        due("none goes by", x.count(4), 999);
    }

    static void triesOfTheDay() {
        LooseEnds x = mill("sf0g9;tc0;tc20");
        for (int tries = 0; tries < 9; tries++) {
            due("TRIES", x.count(5), tries);
            x.attempt(0, 1);
        }
        due("nine", x.count(5), 9);
        x.attempt(0, 1);
        due("no tenth", x.count(5), 9);
        x.days(1);
        due("none", x.count(5), 0);
    }

    static void wakes() {
        LooseEnds x = new LooseEnds();
        x.wakes(9);
        due("nine", x.count(6), 9);
        x.wakes(10);
        due("no ten", x.count(6), 9);
        x.wakes(0);
        due("nought", x.count(6), 0);
    }

    static void seenOnes() {
        LooseEnds x = mill("t;t");
        for (int i = 0; i < 12; i++) {
            due("SEEN", x.count(7), Math.min(10, i));
            x.seen(0, 1, true);
        }
        due("ten", x.count(7), 10);
    }

    static void howLongTheLogIs() {
        LooseEnds x = mill("t;t");
        for (int days = 0; days < 70; days++) {
            due("LOG", x.count(8), Math.min(60, days));
            x.days(1);
        }
        for (int days = 70; days > 40; days--) {
            due("LOG of " + days, x.count(8), Math.min(60, days));
            x.undo();
        }
    }

    static void actsThatCanBeUndone() {
        LooseEnds x = mill("t;t");
        for (int acts = 0; acts < 50; acts++) {
            due("ACTS", x.count(9), Math.min(40, acts));
            x.give(1);
        }
        due("forty", x.count(9), 40);
        x.undo();
        due("one less", x.count(9), 39);
    }
}
