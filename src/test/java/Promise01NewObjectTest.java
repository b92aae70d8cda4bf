/** Promise 1, "No MILL": what each call answers then. */
public final class Promise01NewObjectTest extends Cases {
    public static void main(String[] args) {
        run(Promise01NewObjectTest.class);
    }

    static void countsOfANewObject() {
        int[] want = {0, 0, 0, NONE, 0, 0, 1, 0, 0, 0};
        for (int what = 0; what < want.length; what++) {
            due("count(" + what + ")", new LooseEnds().count(what), want[what]);
        }
    }

    static void noStatusAtFirst() {
        status(new LooseEnds(), 0, 0, 0, 0, 0);
    }

    static void actsAreRefusedAsThereIsNoSuchOne() {
        refused(LooseEnds::new, x -> x.attempt(0, 1), NONE, 0);
        refused(LooseEnds::new, x -> x.pull(0), NONE, 0);
        refused(LooseEnds::new, x -> x.sell(0), NONE, 0);
        refused(LooseEnds::new, x -> x.dye(0, 0), NONE, 0);
        refused(LooseEnds::new, x -> x.give(1), NONE, 0);
        refused(LooseEnds::new, x -> x.days(1), NONE, 0);
    }

    static void noMillGoesAheadOfAllElseThatIsWrong() {
        refused(LooseEnds::new, x -> x.attempt(0, 0), NONE, 0);
        refused(LooseEnds::new, x -> x.dye(0, 21), NONE, 0);
        refused(LooseEnds::new, x -> x.give(51), NONE, 0);
        refused(LooseEnds::new, x -> x.days(61), NONE, 0);
    }

    static void yearsUndoImageAndBackAreRefusedWithoutStatus() {
        refused(LooseEnds::new, x -> x.years(1, 1), NONE, NO_STATUS);
        refused(LooseEnds::new, x -> x.undo(), NONE, NO_STATUS);
        refused(LooseEnds::new, x -> x.image(), NONE, NO_STATUS);
        refused(LooseEnds::new, x -> x.back(), NONE, NO_STATUS);
        refused(LooseEnds::new, x -> x.seen(0, 1, true), NONE, NO_STATUS);
    }

    static void askedOfTheMill() {
        LooseEnds x = new LooseEnds();
        for (int what = 0; what < 8; what++) {
            due("rule(" + what + ")", x.rule(what), NONE);
            due("knots(" + what + ")", x.knots(what), NONE);
            due("tale(" + what + ")", x.tale(what), NONE);
            due("plan(1, " + what + ")", x.plan(1, what), NONE);
            due("plan(2, " + what + ")", x.plan(2, what), NONE);
            due("most(" + what + ")", x.most(what), NONE);
            due("log(0, " + what + ")", x.log(0, what), NONE);
        }
        due("blankets(1)", x.blankets(1), NONE);
        due("blankets(140)", x.blankets(140), NONE);
    }

    static void askedOfEnds() {
        LooseEnds x = new LooseEnds();
        for (int end = 0; end < 7; end++) {
            int other = end == 0 ? 1 : 0;
            due("thread", throwsNoSuch(x, end, 0), true);
            due("fits", x.fits(end, other), NONE);
            due("could", x.could(end), NONE);
            due("plies", x.plies(end, NONE), NONE);
            due("ask", x.ask(end), NONE);
            due("game", x.game(end, other, 0, 0, 0), HIDDEN);
            due("rests", x.rests(end, other, NONE), NONE);
            due("odds", x.odds(end, 0), NONE);
            due("story", x.story(end, 0), NONE);
            due("shares", x.shares(end, 0), NONE);
        }
    }

    static void theTapeLawsAndWakesNeedNoMill() {
        LooseEnds x = new LooseEnds();
        due("feed", Desk.feed(x, "y:1"), 3);
        due("fault", x.fault(1), NONE);
        due("end", x.end(3), true);
        due("text", x.text(1), 0);
        due("law", x.law(0), true);
        due("law(NONE)", x.law(NONE), true);
        due("wakes", x.wakes(2), true);
        due("still no MILL", x.count(0), 0);
        due("still no rule", x.rule(0), NONE);
    }

    static void theConstants() {
        due("NONE", LooseEnds.NONE, -1);
        due("HIDDEN", LooseEnds.HIDDEN, -1000000);
    }

    static void twoObjectsHaveNothingInCommon() {
        LooseEnds x = busy();
        same("another object", new LooseEnds(), new LooseEnds());
        due("count(0)", new LooseEnds().count(0), 0);
        due("count(0) of the first", x.count(0), 7);
    }
}
