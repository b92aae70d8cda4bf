/** Promise 29: game. */
public final class Promise29GameTest extends Cases {
    public static void main(String[] args) {
        run(Promise29GameTest.class);
    }

    private static void game(LooseEnds x, int moves, int one, int other) {
        int a = moves / 10;
        int b = moves % 10;
        due("the one by " + moves, x.game(0, 1, a, b, 0), one);
        due("the other by " + moves, x.game(0, 1, a, b, 1), other);
        due("turned round", x.game(1, 0, b, a, 1), one);
        due("turned round", x.game(1, 0, b, a, 0), other);
    }

    private static void hidden(int one, int other, int a, int b, int what) {
        refused(Cases::busy, x -> x.game(one, other, a, b, what), HIDDEN, NO_STATUS);
    }

    static void noMill() {
        due("game", new LooseEnds().game(0, 1, 0, 0, 0), HIDDEN);
        due("game", new LooseEnds().game(0, 1, 0, 0, 1), HIDDEN);
    }

    static void noSuchEnds() {
        hidden(-1, 0, 0, 0, 0);
        hidden(0, -1, 0, 0, 0);
        hidden(7, 0, 0, 0, 1);
        hidden(0, 7, 0, 0, 1);
        hidden(LEAST, MOST, 0, 0, 0);
        due("of two ENDS", mill("t;t").game(0, 2, 0, 0, 0), HIDDEN);
    }

    static void alike() {
        hidden(0, 0, 0, 0, 0);
        hidden(6, 6, 0, 0, 1);
    }

    static void outOfBounds() {
        int[] wrong = {-1, 4, LEAST, MOST};
        for (int move : wrong) {
            for (int what = 0; what < 2; what++) {
                hidden(0, 1, move, 0, what);
                hidden(0, 1, 0, move, what);
            }
        }
    }

    static void noSuchWhat() {
        hidden(0, 1, 0, 0, -1);
        hidden(0, 1, 0, 0, 2);
        hidden(0, 1, 0, 0, LEAST);
        hidden(0, 1, 0, 0, MOST);
    }

    static void from0To3() {
        LooseEnds x = mill("tc10;tc10");
        game(x, 0, 1, 1);
        game(x, 3, 0, -3);
        game(x, 30, -3, 0);
        game(x, 33, -2, -2);
        game(x, 20, -1, 1);
        game(x, 2, 1, -1);
        game(x, 12, 0, -1);
    }

    static void nobodyElse() {
        game(mill("tc0;tc20"), 0, 0, 0);
        game(mill("tc0;tc20"), 33, -3, -3);
    }

    static void allOfSeven() {
        LooseEnds x = alike(7, "se9");
        game(x, 0, 6, 6);
        game(x, 33, 3, 3);
    }

    static void eachOnce() {
        // each GOES WITH the other both ways
        game(alike(3, ""), 0, 2, 2);
    }

    static void colour20AtMost() {
        LooseEnds x = mill("se0;tc18;tc20;tc20");
        game(x, 10, -1, 1);
        game(x, 20, 0, 2);
        game(x, 30, -1, 2);
        LooseEnds y = mill("se0;tc17;tc20;tc20");
        game(y, 30, -1, 2);
        LooseEnds z = mill("se0;tc20;tc20;tc20");
        game(z, 33, -1, -1);
    }

    static void coloursAsTheyAreNow() {
        LooseEnds x = mill("se0;tc10;tc13");
        game(x, 0, 0, 0);
        x.dye(1, 11);
        game(x, 10, 0, 1);
        game(x, 0, 0, 0);
    }

    static void theColoursStay() {
        LooseEnds x = mill("tc10;tc10");
        x.game(0, 1, 3, 3, 0);
        due("COLOUR", x.thread(0, 0), 10);
        due("COLOUR", x.thread(1, 0), 10);
        due("COINS", x.rule(3), 20);
        due("ACTS", x.count(9), 0);
    }

    static void soldAndKnottedOnesToo() {
        LooseEnds x = alike(4, "sf0");
        knot(x, 2, 3);
        game(x, 0, 3, 3);
        x.sell(2);
        game(x, 0, 3, 3);
        game(allSold(7), 0, 6, 6);
        game(oneTale(7), 0, 6, 6);
    }

    static void n1() {
        LooseEnds x = oneTale(3);
        Desk.hold(x, "y:n=1?1");
        due("fits", x.fits(0, 1), 0);
        game(x, 0, 2, 2);
    }

    static void lengthAndDayAsNow() {
        LooseEnds x = oneTale(2);
        x.pull(0);
        x.days(1);
        Desk.hold(x, "y:l=9&t=1?1");
        game(x, 0, 1, 1);
        x.days(1);
        game(x, 0, 0, 0);
    }

    static void girlsDoNotMatter() {
        due("game", noGirl().game(0, 1, 0, 0, 0), busy().game(0, 1, 0, 0, 0));
    }
}
