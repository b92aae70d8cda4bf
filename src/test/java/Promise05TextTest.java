/** Promise 5: text. */
public final class Promise05TextTest extends Cases {
    public static void main(String[] args) {
        run(Promise05TextTest.class);
    }

    /** As busy, with another TAPE. */
    private static LooseEnds busyWith(String text) {
        LooseEnds x = busy();
        x.end(0);
        Desk.feed(x, text);
        return x;
    }

    private static LooseEnds fourLaws(String text) {
        LooseEnds x = busyWith("y:0");
        x.text(1);
        Desk.addLaw(x, "y:1");
        Desk.feed(x, text);
        due("LAWS", x.count(1), 4);
        return x;
    }

    static void noSuchSort() {
        int[] wrong = {-1, 2, LEAST, MOST};
        for (int sort : wrong) {
            refused(() -> busyWith("t;t"), x -> x.text(sort), NONE, NO_STATUS);
            refused(() -> busyWith("y:1"), x -> x.text(sort), NONE, NO_STATUS);
        }
    }

    static void aMillWithAFault() {
        refused(() -> busyWith("t;t;"), x -> x.text(0), NONE, NO_STATUS);
        refused(() -> busyWith("tc1l20;tc21"), x -> x.text(0), NONE, NO_STATUS);
        refused(() -> busyWith("t;t;t;t;t;t;t;t"), x -> x.text(0), NONE, NO_STATUS);
        refused(() -> busyWith("se9f9g9k99;t"), x -> x.text(0), NONE, NO_STATUS);
        refused(() -> busyWith("y:1"), x -> x.text(0), NONE, NO_STATUS);
    }

    static void aLawWithAFault() {
        refused(() -> busyWith("y:1;"), x -> x.text(1), NONE, NO_STATUS);
        refused(() -> busyWith("y:12345"), x -> x.text(1), NONE, NO_STATUS);
        refused(() -> busyWith("t;t"), x -> x.text(1), NONE, NO_STATUS);
    }

    static void anEmptyTape() {
        refused(() -> busyWith(""), x -> x.text(0), NONE, NO_STATUS);
        refused(() -> busyWith(""), x -> x.text(1), NONE, NO_STATUS);
    }

    static void howManyEnds() {
        for (int ends = 2; ends <= 7; ends++) {
            LooseEnds x = busyWith("t;".repeat(ends - 1) + "t");
            due("text(0)", x.text(0), ends);
            due("ENDS", x.count(0), ends);
            due("the TAPE is empty", x.count(2), 0);
            due("no END more", throwsNoSuch(x, ends, 0), true);
        }
    }

    static void dayNought() {
        LooseEnds x = busyWith("t;t");
        x.text(0);
        due("DAY", x.count(4), 0);
        due("TRIES", x.count(5), 0);
        due("LOG", x.count(8), 0);
        due("log", x.log(0, 0), NONE);
    }

    /** All of busy is gone: it is as if the other one had been the first, LAWS told ahead of it. */
    static void allThatWasOfAnotherMillIsGone() {
        LooseEnds x = busyWith("sk7;tc1l2;t;tp6");
        x.text(0);
        LooseEnds y = new LooseEnds();
        Desk.addLaw(y, "y:1");
        Desk.addLaw(y, "y:0");
        Desk.tell(y, "sk7;tc1l2;t;tp6");
        same("another MILL", x, y);
        due("no ACT", x.undo(), NONE);
        due("no IMAGE", x.back(), NONE);
        due("none SOLD", x.most(4), 0);
        due("all LOOSE", x.most(3), 7);
        due("SEEN", x.count(7), 0);
        x.days(1);
        due("no KNOTS of the DAY", x.log(0, 1), 0);
    }

    static void itemsOfAnotherMillAreGone() {
        LooseEnds x = mill("se9f9g9k99;tc20p6l20;tc20p6l20;tc20p6l20");
        Desk.tell(x, "t;t");
        due("LETS PASS", x.rule(0), 2);
        due("FADES", x.rule(1), 1);
        due("GIRLS", x.rule(2), 4);
        due("COINS", x.rule(3), 20);
        thread(x, 0, 10, 2, 5, 0, NONE, NONE);
        thread(x, 1, 10, 2, 5, 0, NONE, NONE);
        Desk.tell(x, "t;t;t");
        thread(x, 2, 10, 2, 5, 0, NONE, NONE);
    }

    static void itemsOfARefusedMillAreNotKept() {
        LooseEnds x = mill("t;t");
        Desk.feed(x, "se9f9g9k99;tc20p6l20;tc20p6l20x");
        due("text(0)", x.text(0), NONE);
        due("LETS PASS", x.rule(0), 2);
        due("COINS", x.rule(3), 20);
        thread(x, 0, 10, 2, 5, 0, NONE, NONE);
        x.end(0);
        Desk.tell(x, "t;t");
        due("GIRLS", x.rule(2), 4);
        thread(x, 1, 10, 2, 5, 0, NONE, NONE);
    }

    static void lawsWhichHoldsWakesAndStatusStay() {
        LooseEnds x = busyWith("t;t");
        x.law(1);
        x.wakes(7);
        x.attempt(9, 9);
        x.give(0);
        x.pull(2);
        x.pull(4);
        x.text(0);
        due("LAWS", x.count(1), 2);
        due("which holds", x.count(3), 1);
        due("WAKES", x.count(6), 7);
        status(x, 1, 1, 1, 1, 0);
        due("it says what it said", x.fits(0, 1), 0);
        x.law(0);
        due("the other one, too", x.fits(0, 1), 1);
    }

    static void lawsAreNumberedFrom0() {
        LooseEnds x = new LooseEnds();
        for (int law = 0; law < 4; law++) {
            Desk.feed(x, "y:" + law);
            due("text(1)", x.text(1), law);
            due("LAWS", x.count(1), law + 1);
            due("the TAPE is empty", x.count(2), 0);
        }
    }

    static void aFifthLaw() {
        refused(() -> fourLaws("y:1"), x -> x.text(1), NONE, NO_STATUS);
        refused(() -> fourLaws("y:"), x -> x.text(1), NONE, NO_STATUS);
        due("it has no FAULT", fourLaws("y:1").fault(1), NONE);
    }

    static void fourLawsLeaveRoomForAMill() {
        LooseEnds x = fourLaws("t;t;t");
        due("text(0)", x.text(0), 3);
        Desk.feed(x, "y:1");
        due("still four LAWS", x.text(1), NONE);
    }

    static void eachOfFourLawsStaysAsTold() {
        LooseEnds x = mill("tc0;tc3");
        String[] laws = {"y:c-3", "y:c-2", "y:c=3?0;y:1", "y:c=2?0;y:1"};
        for (String law : laws) {
            Desk.addLaw(x, law);
        }
        for (int law = 0; law < 4; law++) {
            x.law(law);
            due("fits by " + laws[law], x.fits(0, 1), law % 2);
        }
    }

    static void aLawDoesNotHoldByItself() {
        LooseEnds x = mill("t;t");
        Desk.addLaw(x, "y:0");
        due("which holds", x.count(3), NONE);
        due("fits", x.fits(0, 1), 1);
    }

    static void aLawChangesNothingOfTheMill() {
        LooseEnds x = busyWith("y:3");
        due("text(1)", x.text(1), 2);
        due("ACTS", x.count(9), busy().count(9));
        due("undo", x.undo(), busy().undo());
        due("back", x.back(), busy().back());
        due("DAY", x.count(4), 1);
    }

    static void aMillAndALawAsLongAsTheTape() {
        LooseEnds x = new LooseEnds();
        Desk.feed(x, "t;t" + " ".repeat(233) + ";tc7");
        due("240 bytes", x.count(2), 240);
        due("text(0)", x.text(0), 3);
        due("COLOUR", x.thread(2, 0), 7);
        Desk.feed(x, "y:" + "1-".repeat(118) + "1;");
        due("237 signs and two more", x.count(2), 240);
        x.end(239);
        due("text(1)", x.text(1), 0);
        x.law(0);
        due("1 less 118", x.fits(0, 1), 0);
        Desk.feed(x, "y:119" + "-1".repeat(117) + " ");
        due("240 bytes", x.count(2), 240);
        due("text(1)", x.text(1), 1);
        x.law(1);
        due("119 less 117", x.fits(0, 1), 1);
    }
}
