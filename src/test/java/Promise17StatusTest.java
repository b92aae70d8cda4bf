/** Promise 17: status. */
public final class Promise17StatusTest extends Cases {
    public static void main(String[] args) {
        run(Promise17StatusTest.class);
    }

    static void noSuchWhat() {
        int[] wrong = {-1, 5, LEAST, MOST};
        for (int what : wrong) {
            refused(Cases::busy, x -> x.status(what), NONE, NO_STATUS);
            due("of a new object", new LooseEnds().status(what), NONE);
        }
    }

    static void noughtAtFirst() {
        status(new LooseEnds(), 0, 0, 0, 0, 0);
        status(busy(), 0, 0, 0, 0, 0);
    }

    /** One refusal of each kind, with the next one once more than the one ahead. */
    private static LooseEnds refusing() {
        LooseEnds x = on(999, "sk0g1;t;t");
        x.pull(7);
        for (int i = 0; i < 2; i++) {
            x.give(0);
        }
        for (int i = 0; i < 3; i++) {
            x.dye(0, 10);
        }
        for (int i = 0; i < 4; i++) {
            x.pull(0);
        }
        for (int i = 0; i < 5; i++) {
            x.days(1);
        }
        return x;
    }

    static void eachIsCountedByItself() {
        status(refusing(), 1, 2, 3, 4, 5);
    }

    static void askingDoesNotCount() {
        LooseEnds x = refusing();
        for (int what = 0; what < 5; what++) {
            x.status(what);
            x.status(what);
        }
        status(x, 1, 2, 3, 4, 5);
    }

    static void actsThatAreDoneDoNotCount() {
        LooseEnds x = mill("t;t;t");
        knot(x, 0, 1);
        x.pull(0);
        x.dye(2, 3);
        x.give(4);
        x.days(5);
        x.years(2, 1);
        x.undo();
        status(x, 0, 0, 0, 0, 0);
    }

    static void notUndone() {
        LooseEnds x = refusing();
        x.undo();
        x.undo();
        status(x, 1, 2, 3, 4, 5);
    }

    static void notUndoneByBack() {
        LooseEnds x = mill("t;t");
        x.give(0);
        x.image();
        x.give(0);
        x.pull(0);
        x.back();
        status(x, 0, 2, 0, 1, 0);
    }

    static void notGoneWithTheMill() {
        LooseEnds x = refusing();
        Desk.tell(x, "t;t");
        status(x, 1, 2, 3, 4, 5);
    }

    static void whatIsNoActDoesNotCount() {
        LooseEnds x = busy();
        x.feed(-1, -1, -1, -1, -1);
        x.end(-1);
        x.fault(9);
        x.text(0);
        x.text(1);
        x.text(9);
        x.rule(9);
        throwsNoSuch(x, 9, 9);
        x.law(9);
        x.wakes(10);
        x.years(0, 1);
        x.years(61, 1);
        x.log(99, 0);
        x.fits(9, 9);
        x.could(9);
        x.knots(9);
        x.tale(9);
        x.plan(9, 9);
        x.blankets(0);
        x.seen(0, 0, true);
        x.plies(9, 9);
        x.ask(9);
        x.game(9, 9, 9, 9, 9);
        x.rests(9, 9, 9);
        x.odds(9, 999);
        x.story(9, 9);
        x.shares(9, 9999);
        x.most(9);
        x.count(99);
        status(x, 0, 0, 0, 0, 0);
        for (int i = 0; i < 50; i++) {
            x.undo();
        }
        status(x, 0, 0, 0, 0, 0);
    }

    static void noImageDoesNotCount() {
        LooseEnds x = mill("t;t");
        due("back", x.back(), NONE);
        status(x, 0, 0, 0, 0, 0);
        LooseEnds y = new LooseEnds();
        y.image();
        y.back();
        status(y, 0, 0, 0, 0, 0);
    }

    static void hundreds() {
        LooseEnds x = mill("t;t");
        for (int i = 0; i < 500; i++) {
            x.give(0);
        }
        due("status(1)", x.status(1), 500);
    }
}
