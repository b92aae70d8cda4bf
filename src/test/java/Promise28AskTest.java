/** Promise 28: ask. */
public final class Promise28AskTest extends Cases {
    public static void main(String[] args) {
        run(Promise28AskTest.class);
    }

    static void noMill() {
        due("ask(0)", new LooseEnds().ask(0), NONE);
    }

    static void noSuchEnd() {
        int[] wrong = {-1, 7, LEAST, MOST};
        for (int end : wrong) {
            refused(Cases::busy, x -> x.ask(end), NONE, NO_STATUS);
        }
        due("of two ENDS", mill("t;t").ask(2), NONE);
    }

    static void nothingFits() {
        LooseEnds x = mill("t;t;t");
        x.seen(0, 1, true);
        x.seen(0, 1, false);
        due("ask(0)", x.ask(0), NONE);
        due("ask(1)", x.ask(1), NONE);
        due("ask(2)", x.ask(2), 0);
    }

    static void ofTwoTheOther() {
        due("ask(0)", mill("t;t").ask(0), 1);
        due("ask(1)", mill("t;t").ask(1), 0);
    }

    static void ofSeveralTheLowest() {
        LooseEnds x = alike(7, "");
        int[] want = {1, 0, 0, 0, 0, 0, 0};
        for (int end = 0; end < 7; end++) {
            due("ask(" + end + ")", x.ask(end), want[end]);
        }
    }

    static void leastApart() {
        // with 1: 1 and 2 go; with 2: 5 and 6; with 3: 2, 3 and 4, as many as do not
        due("ask(0)", mill("t;tp1;tp6;tp3").ask(0), 3);
        due("the last of seven", mill("t;tp1;tp1;tp1;tp6;tp6;tp3").ask(0), 6);
    }

    static void moreThatGoAreAsFarApartAsFewer() {
        // 1 to 5 go with 1, 6 alone with 2: each 4 apart; 5 and 6 with 3: 2 apart
        LooseEnds x = mill("tl1;tl2p1;tl3p6;tl4p6");
        Desk.hold(x, "y:l=3&p<5?1;y:l=4&p=0?1;y:l=5&p<2?1");
        due("2 apart", x.ask(0), 3);
        // 6 alone goes with 1, 1 to 5 with 2
        LooseEnds y = mill("tl1;tl3p6;tl2p1");
        Desk.hold(y, "y:l=3&p<5?1;y:l=4&p=0?1");
        due("both 4 apart", y.ask(0), 1);
    }

    static void amongThePliesThatFit() {
        LooseEnds x = mill("tc10p3;tc10p2;tc11p5");
        // 1, 2 and 3 go with 1 of 1 to 6; 5 alone with 2
        due("ask(0)", x.ask(0), 1);
        due("ask(2)", x.ask(2), 0);
        x.seen(0, 1, true);
        x.seen(2, 0, false);
        // all of 1, 2, 3 go with 1, none with 2
        due("ask(0)", x.ask(0), 1);
        // of 1, 2, 4, 5, 6 none goes with 0, one with 1
        due("ask(2)", x.ask(2), 1);
    }

    static void asToldOnDay0() {
        LooseEnds x = mill("sf0;tl4;tl4;tp3l4");
        Desk.hold(x, "y:n=1&t=0&l=8&c=0&p=0?1");
        due("ask(0)", x.ask(0), 1);
        knot(x, 0, 1);
        x.pull(1);
        x.dye(1, 20);
        x.days(5);
        due("ask(0)", x.ask(0), 1);
        due("ask(2)", x.ask(2), 0);
    }

    static void soldAndKnottedOnesToo() {
        due("everything SOLD", allSold(3).ask(1), 0);
        due("nothing LOOSE", oneTale(3).ask(0), 1);
    }
}
