/** Promises 20 to 31: what could be, from as it is now. */
public final class AskingTest {
    public static void main(String[] args) {
        fitting();
        couldBe();
        mostKnots();
        mostKnotsOfTales();
        longestTale();
        planningOne();
        planningTwo();
        layingInBlankets();
        seeing();
        fittingPlies();
        fittingAsTold();
        asking();
        playing();
        resting();
        erring();
        nothingChanges();
        Desk.finish("AskingTest");
    }

    private static void fitting() {
        LooseEnds x = Desk.mill("se3;tc10p2;tc13p2;tc14p2;tc11p3;tc12p3;t");
        Desk.due("4 - 3", x.fits(0, 1), 1);
        Desk.due("4 - 4", x.fits(0, 2), 0);
        Desk.due("4 - 1 - 2", x.fits(0, 3), 1);
        Desk.due("4 - 2 - 2", x.fits(0, 4), 0);
        Desk.due("both ways", x.fits(3, 0), 1);
        Desk.due("alike", x.fits(1, 1), -1);
        Desk.due("no such", x.fits(0, 6), -1);
        Desk.due("no such", x.fits(-1, 0), -1);
        x.attempt(0, 1);
        Desk.due("knotted ones, too", x.fits(0, 1), 1);
        x.sell(0);
        Desk.due("SOLD ones, too", x.fits(1, 0), 1);
    }

    private static void couldBe() {
        LooseEnds x = Desk.mill("sg1;t;t;t;tc20");
        Desk.due("all but a bright one", x.could(0), 6);
        x.attempt(0, 1);
        Desk.due("one behind it", x.could(0), 0);
        Desk.due("not of its own TALE", x.could(1), 4);
        Desk.due("none that has one ahead; GIRLS do not matter", x.could(2), 1);
        x.sell(0);
        Desk.due("not a SOLD one", x.could(2), 0);
        Desk.due("SOLD itself", x.could(1), 0);
        Desk.due("no such", x.could(4), -1);
        Desk.due("no such", x.could(-1), -1);
    }

    private static void knots(LooseEnds x, int row, int many) {
        Desk.due("knots(0)", x.knots(0), row);
        Desk.due("knots(1)", x.knots(1), many);
    }

    private static void mostKnots() {
        knots(Desk.mill("t;t;t"), 129, 2);
        knots(Desk.mill("tc0;tc20"), 99, 0);
        knots(Desk.mill("t;t;t;t;t;t;t"), 1234569, 6);
        knots(Desk.mill("tc0;tc3;tc6;tc5"), 9392, 2);
        // 0 goes with 3 alone, 1 with 2 alone, both ways: the least row is wanted
        knots(Desk.mill("tc0;tc20;tc20;tc0"), 3299, 2);
        // all go with 2 alone: one ahead of it, one behind it
        knots(Desk.mill("se4;tc0;tc8;tc4"), 291, 2);
        LooseEnds x = Desk.mill("t;t");
        Desk.due("knots(2)", x.knots(2), -1);
        Desk.due("knots(-1)", x.knots(-1), -1);
    }

    private static void mostKnotsOfTales() {
        LooseEnds x = Desk.mill("t;t;t;t");
        x.attempt(0, 1);
        x.attempt(2, 3);
        // 1 with 2 and 3 with 0 would be a ring
        knots(x, 9299, 1);
        LooseEnds y = Desk.mill("t;t;t;t");
        y.attempt(0, 1);
        Desk.hold(y, "y:n=1?1");
        // 1 is the last of two: n is 2 there
        knots(y, 9902, 2);
        y.sell(0);
        knots(y, 9939, 1);
        LooseEnds z = Desk.mill("t;t;t");
        Desk.hold(z, "y:n=1?1");
        // n stays as it is now
        knots(z, 129, 2);
    }

    private static void tale(LooseEnds x, int row, int length) {
        Desk.due("tale(0)", x.tale(0), row);
        Desk.due("tale(1)", x.tale(1), length);
    }

    private static void longestTale() {
        tale(Desk.mill("tl5;tl6;tl7"), 12, 18);
        tale(Desk.mill("tc0l3;tc10l9;tc20l9"), 1, 9);
        tale(Desk.mill("tc0l9;tc10l9;tc20l9"), 0, 9);
        // the shortest row of those with most LENGTH
        tale(Desk.mill("tc0l5;tc0l5;tc20l10"), 2, 10);
        // the least row, though its ENDS are higher together
        tale(Desk.mill("tc0;tc20;tc20;tc0"), 3, 10);
        // 1 lies between the others
        tale(Desk.mill("tc6;tc8;tc10"), 12, 15);
        tale(Desk.mill("tc8;tc6;tc10"), 102, 15);
        LooseEnds x = Desk.mill("tl5;tl6;tl7");
        Desk.hold(x, "y:n=1?1");
        tale(x, 12, 13);
        Desk.hold(x, "y:n=2?1");
        x.law(1);
        tale(x, 2, 7);
        Desk.hold(x, "y:n=1|n=2?1");
        tale(x, 12, 18);
        x.attempt(1, 2);
        tale(x, 0, 5);
        x.attempt(0, 1);
        tale(x, -1, 0);
        Desk.due("tale(2)", x.tale(2), -1);
        Desk.due("tale(-1)", x.tale(-1), -1);
        LooseEnds y = Desk.mill("t;t;tl4");
        y.attempt(0, 1);
        y.sell(0);
        tale(y, 2, 4);
    }

    private static void plan(LooseEnds x, int n, int row, int many) {
        Desk.due("plan(" + n + ", 0)", x.plan(n, 0), row);
        Desk.due("plan(" + n + ", 1)", x.plan(n, 1), many);
    }

    private static void planningOne() {
        plan(Desk.mill("t;t"), 1, 1, 1);
        plan(Desk.mill("tc0;tc20"), 1, 1, 0);
        plan(Desk.mill("tc0;tc20;tc19"), 1, 12, 1);
        LooseEnds x = Desk.mill("sg1;t;t;t");
        x.attempt(2, 0);
        Desk.due("GIRLS do not matter", x.plan(1, 0), 1);
        plan(x, 1, 1, 1);
        x.attempt(2, 1);
        Desk.due("plan(0)", x.plan(0, 0), -1);
        Desk.due("plan(3)", x.plan(3, 0), -1);
        Desk.due("plan(1, 2)", x.plan(1, 2), -1);
        Desk.due("plan(1, -1)", x.plan(1, -1), -1);
        LooseEnds y = Desk.mill("t;t");
        y.attempt(0, 1);
        plan(y, 1, -1, 0);
        plan(y, 2, -1, 0);
    }

    private static void planningTwo() {
        plan(Desk.mill("t;t;t"), 2, 112, 2);
        // fewer, as there are no more
        plan(Desk.mill("t;t"), 2, 1, 1);
        plan(Desk.mill("tc0;tc20"), 2, 101, 0);
        // they FADE by the first TRY: 4 apart, then 2
        plan(Desk.mill("sf2;tc0;tc4"), 2, 101, 1);
        // a TRY with the second brings the first near the third
        plan(Desk.mill("se0f5;tc15;tc15p6;tc10"), 2, 102, 1);
        LooseEnds x = Desk.mill("t;t;t");
        Desk.hold(x, "y:n=1?1");
        // n is 2 behind the first KNOT
        plan(x, 2, 120, 2);
        x.attempt(0, 1);
        // 12 fails ahead of 20; 20 by itself leaves no more TRIES: 20 is less than 1220
        plan(x, 2, 20, 1);
    }

    private static void layingInBlankets() {
        LooseEnds x = Desk.mill("tl5;tl6;tl4;tl5");
        int[][] want = {{0, -1}, {1, -1}, {5, -1}, {6, 4}, {9, 3}, {10, 2}, {11, 2}, {19, 2}, {20, 1}, {140, 1}, {141, -1}};
        for (int[] pair : want) {
            Desk.due("blankets(" + pair[0] + ")", x.blankets(pair[0]), pair[1]);
        }
        x.attempt(0, 1);
        Desk.due("a TALE lies whole", x.blankets(10), -1);
        Desk.due("blankets(11)", x.blankets(11), 2);
        Desk.due("blankets(15)", x.blankets(15), 2);
        x.sell(0);
        Desk.due("what is SOLD is away", x.blankets(9), 1);
        x.attempt(2, 3);
        x.sell(2);
        Desk.due("nothing lies there", x.blankets(1), 0);
        // 7 8 9 10 11 12 13: 7+13, 8+12, 9+11, 10
        LooseEnds y = Desk.mill("tl7;tl8;tl9;tl10;tl11;tl12;tl13");
        Desk.due("by pairs", y.blankets(20), 4);
        Desk.due("by threes", y.blankets(24), 3);
    }

    private static void seeing() {
        LooseEnds x = Desk.mill("t;t;t");
        Desk.due("alike", x.seen(1, 1, true), -1);
        Desk.due("no such", x.seen(0, 3, true), -1);
        Desk.due("no such", x.seen(-1, 0, false), -1);
        for (int i = 1; i <= 10; i++) {
            Desk.due("SEEN", x.seen(i % 3, (i + 1) % 3, i % 2 == 0), i);
        }
        Desk.due("an eleventh", x.seen(0, 1, true), -1);
        Desk.due("count", x.count(7), 10);
        Desk.due("no ACT", x.count(9), 0);
        Desk.due("no STATUS", x.status(0) + x.status(1), 0);
    }

    private static void plies(LooseEnds x, int end, int... want) {
        Desk.due("plies(" + end + ", -1)", x.plies(end, -1), want.length);
        for (int i = 0; i < want.length; i++) {
            Desk.due("plies(" + end + ", " + i + ")", x.plies(end, i), want[i]);
        }
        Desk.due("plies: no such i", x.plies(end, want.length), -1);
        Desk.due("plies: no such i", x.plies(end, -2), -1);
    }

    private static void fittingPlies() {
        LooseEnds x = Desk.mill("tc10p3;tc10p2;tc11p5");
        plies(x, 0, 1, 2, 3, 4, 5, 6);
        x.seen(0, 1, true);
        plies(x, 0, 1, 2, 3);
        plies(x, 1, 2, 3, 4);
        plies(x, 2, 1, 2, 3, 4, 5, 6);
        x.seen(2, 0, false);
        plies(x, 0, 1, 2, 3);
        plies(x, 2, 1, 2, 4, 5, 6);
        Desk.due("plies of none", x.plies(3, -1), -1);
        Desk.due("plies of none", x.plies(-1, -1), -1);
        x.seen(1, 0, false);
        plies(x, 0);
        plies(x, 1);
        Desk.due("nothing fits", x.ask(0), -1);
    }

    private static void fittingAsTold() {
        LooseEnds x = Desk.mill("sk99;tc10p3l4;tc10p2l4;tc11p5");
        x.seen(0, 1, true);
        x.dye(0, 20);
        x.attempt(1, 2);
        x.days(5);
        plies(x, 0, 1, 2, 3);
        Desk.hold(x, "y:t=0&n=1&l=8&c=0&p=2?1");
        plies(x, 0, 4);
        plies(x, 1, 1, 5);
        Desk.hold(x, "y:e-2");
        plies(x, 0);
        x.law(-1);
        plies(x, 0, 1, 2, 3);
    }

    private static void asking() {
        LooseEnds x = Desk.mill("tc10p3;tc10p2;tc11p5");
        // with 1: 1 2 3 go, 4 5 6 do not; with 2: 5 alone goes
        Desk.due("ask(0)", x.ask(0), 1);
        Desk.due("ask(1)", x.ask(1), 0);
        // with 0: 3 alone goes; with 1: 2 alone goes
        Desk.due("ask(2)", x.ask(2), 0);
        x.seen(0, 1, true);
        x.seen(2, 0, false);
        // all of 1 2 3 go with 1, none with 2
        Desk.due("ask(0)", x.ask(0), 1);
        // of 1 2 4 5 6 none goes with 0, 2 goes with 1
        Desk.due("ask(2)", x.ask(2), 1);
        Desk.due("no such", x.ask(3), -1);
        Desk.due("no such", x.ask(-1), -1);
    }

    private static void playing() {
        LooseEnds x = Desk.mill("tc10;tc12;tc15;tc18");
        int[][] want = {{0, 0, 1, 1}, {3, 0, -1, 1}, {3, 3, -1, -1}, {0, 3, 0, -2}};
        for (int[] w : want) {
            Desk.due("game of the one", x.game(0, 1, w[0], w[1], 0), w[2]);
            Desk.due("game of the other", x.game(0, 1, w[0], w[1], 1), w[3]);
            Desk.due("game turned round", x.game(1, 0, w[1], w[0], 0), w[3]);
        }
        LooseEnds y = Desk.mill("se0;tc19;tc20;t");
        Desk.due("20 at most", y.game(0, 1, 3, 0, 0), -2);
        Desk.due("20 at most", y.game(0, 1, 1, 3, 1), -2);
        LooseEnds z = Desk.mill("t;t;t;t");
        z.attempt(0, 1);
        z.sell(0);
        Desk.due("SOLD and knotted ones, too", z.game(2, 3, 0, 0, 0), 3);
        Desk.hold(z, "y:n=1&t=1?1");
        Desk.due("DAY 0", z.game(0, 1, 0, 0, 0), 0);
        z.days(1);
        Desk.due("n 1, the DAY now", z.game(0, 1, 0, 0, 0), 3);
        int[][] wrong = {{0, 0, 0, 0, 0}, {0, 4, 0, 0, 0}, {-1, 0, 0, 0, 0}, {0, 1, 4, 0, 0}, {0, 1, 0, -1, 0},
            {0, 1, 0, 0, 2}, {0, 1, 0, 0, -1}};
        for (int[] w : wrong) {
            Desk.due("game: wrong", z.game(w[0], w[1], w[2], w[3], w[4]), LooseEnds.HIDDEN);
        }
    }

    private static boolean isRest(LooseEnds x, int one, int other, int a, int b) {
        for (int k = 0; k < 4; k++) {
            if (x.game(one, other, k, b, 0) > x.game(one, other, a, b, 0)
                || x.game(one, other, a, k, 1) > x.game(one, other, a, b, 1)) {
                return false;
            }
        }
        return true;
    }

    private static void resting() {
        String[] mills = {"tc10;tc12;tc15;tc18", "tc5;tc9;tc9;tc9", "se0;tc4;tc6;tc6;tc7;tc7", "tc17;tc20;tc20;tc20;tc19"};
        for (String mill : mills) {
            LooseEnds x = Desk.mill(mill);
            for (int pair = 0; pair < 3; pair++) {
                int many = 0;
                for (int move = 0; move < 16; move++) {
                    if (isRest(x, pair, pair + 1, move / 4, move % 4)) {
                        Desk.due("rests", x.rests(pair, pair + 1, many), move / 4 * 10 + move % 4);
                        many++;
                    }
                }
                Desk.due("how many rests", x.rests(pair, pair + 1, -1), many);
                Desk.due("no such rest", x.rests(pair, pair + 1, many), -1);
                Desk.due("no such rest", x.rests(pair, pair + 1, -2), -1);
            }
            Desk.due("alike", x.rests(1, 1, -1), -1);
            Desk.due("no such", x.rests(1, 7, -1), -1);
            Desk.due("no such", x.rests(-1, 1, -1), -1);
        }
    }

    private static void erring() {
        LooseEnds x = Desk.mill("t;t;t");
        Desk.due("never errs", x.odds(0, 0), 1000000000);
        Desk.due("always errs", x.odds(0, 100), 0);
        Desk.due("by half", x.odds(0, 50), 750000000);
        Desk.due("by a third", x.odds(1, 33), 891100000);
        Desk.due("above", x.odds(0, 101), -1);
        Desk.due("below", x.odds(0, -1), -1);
        Desk.due("no such", x.odds(3, 0), -1);
        x.attempt(0, 1);
        Desk.due("one behind it", x.odds(0, 0), 0);
        Desk.due("one left", x.odds(1, 50), 500000000);
        x.sell(0);
        Desk.due("SOLD", x.odds(1, 0), 0);
        Desk.due("none left", x.odds(2, 0), 0);
        LooseEnds y = Desk.mill("sf0;t;t;t;t;t;t;t");
        Desk.due("cut", y.odds(3, 7), 999999883);
        Desk.due("cut to nothing", y.odds(3, 1), 1000000000);
        Desk.due("it FADES by what does not go", Desk.mill("se0;tc10;tc20;tc9").odds(0, 0), 1000000000);
        Desk.due("it FADES where the girl errs", Desk.mill("se0;tc10;tc10;tc10").odds(0, 50), 500000000);
    }

    /** None of these calls changes what is. */
    private static void nothingChanges() {
        LooseEnds x = Desk.mill("sg5;tc9;tc10l7;tc11;tc12;tc3");
        x.attempt(0, 1);
        int[] before = all(x);
        for (int end = 0; end < 5; end++) {
            x.could(end);
            x.odds(end, 10);
            x.ask(end);
            x.plies(end, -1);
            x.story(end, 4);
            x.rests(end, (end + 1) % 5, -1);
        }
        for (int what = 0; what < 8; what++) {
            x.knots(what);
            x.tale(what);
            x.plan(1, what);
            x.plan(2, what);
            x.most(what);
            x.blankets(20);
        }
        int[] behind = all(x);
        for (int i = 0; i < before.length; i++) {
            Desk.due("as it was", behind[i], before[i]);
        }
    }

    private static int[] all(LooseEnds x) {
        int[] all = new int[40];
        for (int i = 0; i < 30; i++) {
            all[i] = x.thread(i / 6, i % 6);
        }
        for (int what = 0; what < 10; what++) {
            all[30 + what] = x.count(what);
        }
        return all;
    }
}
