/** Promise 35: image. */
public final class Promise35ImageTest extends Cases {
    public static void main(String[] args) {
        run(Promise35ImageTest.class);
    }

    static void noMill() {
        refused(LooseEnds::new, x -> x.image(), NONE, NO_STATUS);
        LooseEnds x = new LooseEnds();
        x.image();
        Desk.tell(x, "t;t");
        due("none was kept", x.back(), NONE);
    }

    static void theDay() {
        due("DAY 0", mill("t;t").image(), 0);
        due("DAY 1", on(1, "t;t").image(), 1);
        due("DAY 999", on(999, "t;t").image(), 999);
    }

    static void nothingChanges() {
        LooseEnds x = busy();
        x.image();
        LooseEnds y = busy();
        same("as it was", x, y);
        due("undo", x.undo(), y.undo());
        same("as it was", x, y);
    }

    static void insteadOfTheOneAhead() {
        LooseEnds x = mill("sk0;t;t");
        x.image();
        x.give(7);
        x.days(1);
        due("another one", x.image(), 1);
        x.give(7);
        x.days(1);
        due("back", x.back(), 1);
        due("COINS", x.rule(3), 8);
        due("back once more", x.back(), 1);
    }

    static void noActAndNotUndone() {
        LooseEnds x = mill("sk0;t;t");
        x.give(1);
        x.image();
        due("ACTS", x.count(9), 1);
        x.undo();
        due("back", x.back(), 0);
        due("COINS", x.rule(3), 1);
    }

    static void whatComesLaterIsNotInIt() {
        LooseEnds x = busy();
        LooseEnds y = busy();
        x.image();
        x.pull(0);
        x.attempt(4, 5);
        x.dye(6, 5);
        x.give(9);
        x.days(3);
        x.back();
        y.image();
        y.back();
        same("as it was", x, y);
    }
}
