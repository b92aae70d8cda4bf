/** Promise 9: attempt, and what paragraph 2 of the Terms says of a TRY. */
public final class Promise09AttemptTest extends Cases {
    public static void main(String[] args) {
        run(Promise09AttemptTest.class);
    }

    private static void refusedOfBusy(int one, int other, int kind) {
        refused(Cases::busy, x -> x.attempt(one, other), NONE, kind);
    }

    private static void refusedWithoutGirl(int one, int other, int kind) {
        refused(Cases::noGirl, x -> x.attempt(one, other), NONE, kind);
    }

    private static void tried(String mill, int want) {
        due("attempt(0, 1) of " + mill, mill(mill).attempt(0, 1), want);
    }

    private static void faded(String mill, int first, int second) {
        LooseEnds x = mill(mill);
        x.attempt(0, 1);
        due("COLOUR ahead of " + mill, x.thread(0, 0), first);
        due("COLOUR behind of " + mill, x.thread(1, 0), second);
    }

    // ---- what is refused

    static void noSuchEnds() {
        refusedOfBusy(-1, 4, 0);
        refusedOfBusy(4, -1, 0);
        refusedOfBusy(7, 4, 0);
        refusedOfBusy(4, 7, 0);
        refusedOfBusy(LEAST, MOST, 0);
    }

    static void noSuchEndsOfASmallerMill() {
        refused(() -> mill("t;t"), x -> x.attempt(0, 2), NONE, 0);
        refused(() -> mill("t;t"), x -> x.attempt(2, 0), NONE, 0);
    }

    static void alike() {
        refusedOfBusy(4, 4, 1);
        refusedOfBusy(6, 6, 1);
    }

    static void theFirstSold() {
        refusedOfBusy(3, 4, 2);
    }

    static void theSecondSold() {
        refusedOfBusy(4, 2, 2);
    }

    static void bothSold() {
        refusedOfBusy(3, 2, 2);
    }

    static void ofOneTale() {
        refusedOfBusy(1, 0, 2);
        refused(() -> oneTale(7), x -> x.attempt(6, 0), NONE, 2);
    }

    static void theFirstWithOneBehindIt() {
        refusedOfBusy(0, 4, 2);
    }

    static void theSecondWithOneAheadOfIt() {
        refusedOfBusy(4, 1, 2);
    }

    static void knottedSoAlready() {
        refusedOfBusy(0, 1, 2);
    }

    static void noGirlIsLeft() {
        refusedWithoutGirl(4, 5, 3);
        refusedWithoutGirl(4, 0, 3);
        refusedWithoutGirl(1, 4, 3);
    }

    static void ofSeveralTheFirst() {
        refusedOfBusy(7, 7, 0);
        refusedOfBusy(-1, -1, 0);
        refusedOfBusy(2, 7, 0);
        refusedOfBusy(0, -1, 0);
        refusedOfBusy(2, 2, 1);
        refusedOfBusy(0, 0, 1);
        refusedWithoutGirl(7, 4, 0);
        refusedWithoutGirl(4, 4, 1);
        refusedWithoutGirl(4, 2, 2);
        refusedWithoutGirl(1, 0, 2);
    }

    // ---- GIRLS

    private static void girls(String mill, int girls) {
        LooseEnds x = mill(mill);
        for (int i = 0; i < girls; i++) {
            due("TRY " + (i + 1), x.attempt(0, 1), 0);
        }
        due("no GIRL", x.attempt(0, 1), NONE);
        status(x, 0, 0, 0, 1, 0);
        due("TRIES", x.count(5), girls);
        x.days(1);
        due("on another DAY", x.attempt(0, 1), 0);
    }

    static void oneGirl() {
        girls("sf0g1;tc0;tc20", 1);
    }

    static void fourGirlsWithout() {
        girls("sf0;tc0;tc20", 4);
    }

    static void nineGirls() {
        girls("sf0g9;tc0;tc20", 9);
    }

    static void aRefusedTryTakesNoGirl() {
        LooseEnds x = mill("sg1;t;t");
        x.attempt(0, 0);
        x.attempt(0, 2);
        due("TRIES", x.count(5), 0);
        due("the GIRL", x.attempt(0, 1), 1);
    }

    static void noOtherActBringsAGirl() {
        LooseEnds x = mill("sg1;t;t;t");
        knot(x, 0, 1);
        x.give(1);
        x.dye(2, 9);
        x.pull(0);
        due("TRIES", x.count(5), 1);
        due("no GIRL", x.attempt(0, 1), NONE);
        for (int i = 0; i < 4; i++) {
            x.undo();
        }
        due("an UNDONE TRY does", x.attempt(0, 1), 1);
    }

    // ---- whether KNOTTED

    static void worthOf1And0WithoutALaw() {
        tried("tc10;tc12", 1);
        tried("tc10;tc13", 0);
        tried("tc12;tc10", 1);
        tried("tc13;tc10", 0);
        tried("tp2;tp3", 1);
        tried("tp3;tp2", 1);
        tried("tp2;tp4", 0);
        tried("tp2c10;tp3c11", 0);
    }

    static void nothingLetPass() {
        tried("se0;tc10;tc10", 1);
        tried("se0;tc10;tc11", 0);
        tried("se0;tp2;tp3", 0);
    }

    static void nineLetPass() {
        tried("se9;tc0;tc9", 1);
        tried("se9;tc0;tc10", 0);
        tried("se9;tp1c0;tp5c1", 1);
        tried("se9;tp1c0;tp5c2", 0);
        tried("se9;tp1;tp6", 0);
    }

    static void worthOf1And0ByALaw() {
        String[] laws = {"y:0", "y:1", "y:0-1"};
        int[] want = {0, 1, 0};
        for (int i = 0; i < laws.length; i++) {
            LooseEnds x = mill("t;t");
            Desk.hold(x, laws[i]);
            due("by " + laws[i], x.attempt(0, 1), want[i]);
        }
    }

    static void nIsTheTaleOfTheFirst() {
        LooseEnds x = mill("t;t;t");
        Desk.hold(x, "y:n=1?1");
        knot(x, 0, 1);
        due("two are in it", x.attempt(1, 2), 0);
        due("one is in it", x.attempt(2, 0), 1);
    }

    static void itIsJudgedAheadOfFading() {
        LooseEnds x = mill("se0f9;tc10;tc11");
        due("1 apart, then both at 1 and 2", x.attempt(0, 1), 0);
        due("at 1 and 2, then at 0", x.attempt(0, 1), 0);
        due("both at 0", x.attempt(0, 1), 1);
    }

    static void whetherKnottedChangesWhoIsBehindAndAhead() {
        LooseEnds x = mill("t;t;tc20");
        due("not", x.attempt(0, 2), 0);
        thread(x, 0, 9, 2, 5, 0, NONE, NONE);
        thread(x, 2, 19, 2, 5, 0, NONE, NONE);
        due("KNOTTED", x.attempt(0, 1), 1);
        thread(x, 0, 8, 2, 5, 0, 1, NONE);
        thread(x, 1, 9, 2, 5, 0, NONE, 0);
    }

    static void sevenInOneTale() {
        LooseEnds x = oneTale(7);
        due("ENDS in it", x.story(3, 2), 7);
        due("LAST", x.story(0, 1), 6);
    }

    static void twoTalesBecomeOne() {
        LooseEnds x = mill("sf0;t;t;t;t");
        knot(x, 0, 1);
        knot(x, 2, 3);
        knot(x, 3, 0);
        due("FIRST", x.story(1, 0), 2);
        due("LAST", x.story(2, 1), 1);
        due("how many", x.story(0, 2), 4);
    }

    // ---- FADING

    static void aColourIs0AtLeast() {
        faded("sf1;tc0;tc1", 0, 0);
        faded("sf9;tc9;tc10", 0, 1);
        faded("sf9;tc8;tc20", 0, 11);
        faded("sf3;tc3;tc4", 0, 1);
        faded("sf3;tc2;tc0", 0, 0);
    }

    static void fadesWhetherKnottedOrNot() {
        faded("sf2;tc10;tc12", 8, 10);
        faded("sf2;tc10;tc13", 8, 11);
    }

    static void nothingFadesBy0() {
        faded("sf0;tc10;tc12", 10, 12);
        faded("sf0;tc0;tc20", 0, 20);
    }

    static void fadesBy1Without() {
        faded("tc10;tc20", 9, 19);
    }

    static void noOtherFades() {
        LooseEnds x = mill("sf0;t;t;t;t");
        LooseEnds y = mill("sf5;t;t;t;t");
        x.attempt(1, 2);
        y.attempt(1, 2);
        due("ahead of both", y.thread(0, 0), x.thread(0, 0));
        due("behind both", y.thread(3, 0), x.thread(3, 0));
        due("itself", y.thread(1, 0), 5);
    }

    static void nothingElseOfThemChanges() {
        LooseEnds x = mill("sk5;tl3p3;tl4p4;t");
        knot(x, 0, 1);
        thread(x, 0, 9, 3, 3, 0, 1, NONE);
        thread(x, 1, 9, 4, 4, 0, NONE, 0);
        due("COINS", x.rule(3), 5);
        due("DAY", x.count(4), 0);
    }

    static void onTheLastDay() {
        LooseEnds x = on(999, "t;t");
        due("attempt", x.attempt(0, 1), 1);
    }

    static void aTryIsOneAct() {
        LooseEnds x = mill("t;tc20");
        x.attempt(0, 1);
        due("ACTS", x.count(9), 1);
        x.undo();
        thread(x, 0, 10, 2, 5, 0, NONE, NONE);
        thread(x, 1, 20, 2, 5, 0, NONE, NONE);
        due("TRIES", x.count(5), 0);
    }
}
