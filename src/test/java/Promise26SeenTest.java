/** Promise 26: seen. */
public final class Promise26SeenTest extends Cases {
    public static void main(String[] args) {
        run(Promise26SeenTest.class);
    }

    private static LooseEnds ten() {
        LooseEnds x = busy();
        for (int many = 3; many <= 10; many++) {
            due("seen", x.seen(4, 5, false), many);
        }
        return x;
    }

    static void noMill() {
        due("seen", new LooseEnds().seen(0, 1, true), NONE);
    }

    static void noSuchEnds() {
        int[][] wrong = {{-1, 0}, {0, -1}, {7, 0}, {0, 7}, {LEAST, 0}, {0, MOST}, {7, 7}};
        for (int[] pair : wrong) {
            refused(Cases::busy, x -> x.seen(pair[0], pair[1], true), NONE, NO_STATUS);
            refused(Cases::busy, x -> x.seen(pair[0], pair[1], false), NONE, NO_STATUS);
        }
        due("of two ENDS", mill("t;t").seen(0, 2, true), NONE);
    }

    static void alike() {
        refused(Cases::busy, x -> x.seen(0, 0, true), NONE, NO_STATUS);
        refused(Cases::busy, x -> x.seen(6, 6, false), NONE, NO_STATUS);
    }

    static void oneToTen() {
        LooseEnds x = mill("t;t");
        due("none", x.count(7), 0);
        for (int many = 1; many <= 10; many++) {
            due("seen", x.seen(many % 2, 1 - many % 2, many > 5), many);
            due("count", x.count(7), many);
        }
    }

    static void anEleventh() {
        refused(Promise26SeenTest::ten, x -> x.seen(0, 1, false), NONE, NO_STATUS);
        refused(Promise26SeenTest::ten, x -> x.seen(4, 5, false), NONE, NO_STATUS);
        refused(Promise26SeenTest::ten, x -> x.seen(4, 5, true), NONE, NO_STATUS);
    }

    static void theTenthCounts() {
        LooseEnds x = mill("t;t;t");
        for (int i = 0; i < 9; i++) {
            x.seen(0, 1, true);
        }
        due("PLIES of 2", x.plies(2, NONE), 6);
        due("the tenth", x.seen(2, 1, true), 10);
        due("PLIES of 2", x.plies(2, NONE), 3);
        due("an eleventh", x.seen(2, 1, false), NONE);
        due("PLIES of 2", x.plies(2, NONE), 3);
        due("PLIES of 0: none is forgotten", x.plies(0, NONE), 3);
    }

    static void soldAndKnottedOnesToo() {
        LooseEnds x = allSold(3);
        due("seen", x.seen(0, 1, true), 1);
        due("seen", x.seen(2, 0, false), 2);
    }

    static void noActAndNotUndone() {
        LooseEnds x = busy();
        int acts = x.count(9);
        x.seen(0, 4, true);
        due("ACTS", x.count(9), acts);
        x.undo();
        due("not UNDONE", x.count(7), 3);
        x.back();
        due("nor by BACK", x.count(7), 3);
    }

    static void goneWithTheMill() {
        LooseEnds x = ten();
        x.end(0);
        Desk.tell(x, "t;t");
        due("count", x.count(7), 0);
        due("PLIES", x.plies(0, NONE), 6);
        due("seen", x.seen(0, 1, true), 1);
    }
}
