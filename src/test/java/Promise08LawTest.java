/** Promise 8: law. */
public final class Promise08LawTest extends Cases {
    public static void main(String[] args) {
        run(Promise08LawTest.class);
    }

    /** As busy, with so many LAWS, the second of which holds. */
    private static LooseEnds withLaws(int laws) {
        LooseEnds x = busy();
        x.end(0);
        for (int law = 2; law < laws; law++) {
            Desk.addLaw(x, "y:" + law);
        }
        x.law(1);
        return x;
    }

    private static void noSuch(int laws, int law) {
        refused(() -> withLaws(laws), x -> x.law(law) ? 1 : 0, 0, NO_STATUS);
    }

    static void noLawYet() {
        LooseEnds x = mill("t;t");
        due("law(0)", x.law(0), false);
        due("law(NONE)", x.law(NONE), true);
        due("which holds", x.count(3), NONE);
    }

    static void noSuchLaw() {
        noSuch(2, 2);
        noSuch(2, 3);
        noSuch(4, 4);
        noSuch(2, -2);
        noSuch(2, LEAST);
        noSuch(2, MOST);
    }

    static void theFirstAndTheLast() {
        LooseEnds x = withLaws(4);
        for (int law = 0; law < 4; law++) {
            due("law(" + law + ")", x.law(law), true);
            due("which holds", x.count(3), law);
        }
    }

    static void none() {
        LooseEnds x = withLaws(2);
        due("y:0", x.fits(0, 4), 0);
        due("law(NONE)", x.law(NONE), true);
        due("which holds", x.count(3), NONE);
        due("without a LAW", x.fits(0, 4), 1);
        due("law(NONE) once more", x.law(NONE), true);
    }

    static void theSameOnceMore() {
        LooseEnds x = withLaws(2);
        due("law(1)", x.law(1), true);
        due("which holds", x.count(3), 1);
    }

    static void aLawIsNoAct() {
        LooseEnds x = withLaws(2);
        int acts = x.count(9);
        x.law(0);
        due("ACTS", x.count(9), acts);
        x.undo();
        due("not UNDONE", x.count(3), 0);
        x.back();
        due("nor by BACK", x.count(3), 0);
    }
}
