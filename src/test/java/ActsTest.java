/** Promises 9 to 19: ACTS, YEARS, STATUS, UNDONE ACTS and the LOG. */
public final class ActsTest {
    public static void main(String[] args) {
        trying();
        fading();
        refusedTries();
        pulling();
        selling();
        dyeing();
        giving();
        passingDays();
        waking();
        drawing();
        refusing();
        undoing();
        logging();
        Desk.finish("ActsTest");
    }

    private static void status(LooseEnds x, int... want) {
        for (int what = 0; what < want.length; what++) {
            Desk.due("status(" + what + ")", x.status(what), want[what]);
        }
    }

    private static void trying() {
        LooseEnds x = Desk.mill("sg9;tc10;tc12;tc15;tc10p3");
        Desk.due("2 apart", x.attempt(0, 1), 1);
        Desk.due("behind", x.thread(0, 4), 1);
        Desk.due("ahead", x.thread(1, 5), 0);
        Desk.due("nobody behind the last", x.thread(1, 4), -1);
        // now 9, 11, 15, 10
        Desk.due("4 apart", x.attempt(1, 2), 0);
        // now 9, 10, 14, 10
        Desk.due("4 apart again", x.attempt(1, 2), 0);
        Desk.due("TRIES count, KNOTTED or not", x.count(5), 3);
        // now 9, 9, 13, 10: COLOURS 1 apart, PLIES 1 apart: 3 - 1 - 2
        Desk.due("1 and 2 make 3", x.attempt(1, 3), 0);
        // now 9, 8, 13, 9
        Desk.due("a tale of two behind a single one", x.attempt(3, 0), 1);
        Desk.due("one TALE", x.story(1, 0), 3);
        LooseEnds y = Desk.mill("t;tp3");
        Desk.due("PLIES 1 apart", y.attempt(1, 0), 1);
    }

    private static void fading() {
        LooseEnds x = Desk.mill("sf9;tc20;tc5p6;t");
        Desk.due("not KNOTTED", x.attempt(0, 1), 0);
        Desk.due("COLOUR ahead", x.thread(0, 0), 11);
        Desk.due("0 at least", x.thread(1, 0), 0);
        Desk.due("others stay", x.thread(2, 0), 10);
        Desk.due("KNOTTED", x.attempt(0, 2), 1);
        Desk.due("COLOUR of the first", x.thread(0, 0), 2);
        Desk.due("COLOUR of the second", x.thread(2, 0), 1);
        LooseEnds y = Desk.mill("sf0;t;t");
        y.attempt(0, 1);
        Desk.due("none FADES", y.thread(0, 0), 10);
    }

    private static void refusedTries() {
        LooseEnds x = Desk.mill("sg3;t;t;t;t;tc20");
        Desk.due("no such", x.attempt(0, 5), -1);
        Desk.due("no such and alike", x.attempt(5, 5), -1);
        Desk.due("below", x.attempt(-1, 0), -1);
        status(x, 3, 0, 0, 0, 0);
        Desk.due("alike", x.attempt(0, 0), -1);
        status(x, 3, 1, 0, 0, 0);
        x.attempt(0, 1);
        Desk.due("one behind the first", x.attempt(0, 2), -1);
        Desk.due("one ahead of the second", x.attempt(2, 1), -1);
        Desk.due("of one TALE", x.attempt(1, 0), -1);
        status(x, 3, 1, 3, 0, 0);
        x.sell(0);
        Desk.due("the first SOLD", x.attempt(1, 2), -1);
        Desk.due("the second SOLD", x.attempt(2, 0), -1);
        status(x, 3, 1, 5, 0, 0);
        Desk.due("refused TRIES do not count", x.count(5), 1);
        Desk.due("a TRY", x.attempt(2, 4), 0);
        Desk.due("a TRY", x.attempt(2, 3), 1);
        Desk.due("no GIRL", x.attempt(3, 4), -1);
        Desk.due("no GIRL, and SOLD ahead of that", x.attempt(3, 0), -1);
        status(x, 3, 1, 6, 1, 0);
        Desk.due("refused ones do not FADE", x.thread(4, 0), 19);
        x.days(1);
        Desk.due("GIRLS again", x.attempt(3, 4), 0);
    }

    private static void pulling() {
        LooseEnds x = Desk.mill("tl1;tl2;tl3;tl4");
        Desk.due("not knotted", x.pull(0), -1);
        Desk.due("no such", x.pull(4), -1);
        Desk.due("no such", x.pull(-1), -1);
        status(x, 2, 0, 0, 1, 0);
        x.attempt(0, 1);
        x.attempt(1, 2);
        x.attempt(2, 3);
        Desk.due("the first of four", x.pull(0), 1);
        Desk.due("its neighbour is shorter", x.thread(1, 2), 1);
        Desk.due("itself not", x.thread(0, 2), 1);
        Desk.due("others not", x.thread(3, 2), 4);
        Desk.due("two KNOTS", x.pull(2), 2);
        Desk.due("1 at least", x.thread(1, 2), 1);
        Desk.due("shorter", x.thread(3, 2), 3);
        Desk.due("the pulled one stays as long", x.thread(2, 2), 3);
        Desk.due("all LOOSE", x.most(3), 15);
        Desk.due("behind", x.thread(2, 4), -1);
        Desk.due("ahead", x.thread(3, 5), -1);
        x.attempt(0, 1);
        x.sell(0);
        Desk.due("SOLD", x.pull(1), -1);
        status(x, 2, 0, 1, 1, 0);
    }

    private static void selling() {
        LooseEnds x = Desk.mill("sk0;tl5;tl6;tl3;tl20;t");
        Desk.due("alone", x.sell(0), -1);
        Desk.due("no such", x.sell(5), -1);
        status(x, 1, 0, 0, 1, 0);
        x.attempt(0, 1);
        x.attempt(1, 2);
        Desk.due("the last one", x.sell(2), -1);
        Desk.due("one between", x.sell(1), -1);
        status(x, 1, 2, 0, 1, 0);
        Desk.due("14 times 3 by 4", x.sell(0), 10);
        Desk.due("SOLD", x.most(4), 7);
        Desk.due("KNOTS stay", x.thread(1, 4), 2);
        Desk.due("SOLD before", x.sell(0), -1);
        Desk.due("SOLD, but not the first", x.sell(1), -1);
        status(x, 1, 3, 1, 1, 0);
        x.attempt(3, 4);
        Desk.due("25 times 2 by 4", x.sell(3), 22);
        LooseEnds y = rich(9990);
        y.attempt(0, 1);
        Desk.due("9,999 at most", y.sell(0), 9999);
    }

    /** A MILL whose first two ENDS have LENGTH 20 each, with so many COINS. */
    private static LooseEnds rich(int coins) {
        LooseEnds x = Desk.mill("sk99;tl20;tl20;t");
        for (int have = 99; have < coins; ) {
            have = x.give(Math.min(50, coins - have));
        }
        return x;
    }

    private static void dyeing() {
        LooseEnds x = Desk.mill("sk5;t;t;t");
        Desk.due("COLOUR that was", x.dye(0, 20), 10);
        Desk.due("COLOUR", x.thread(0, 0), 20);
        Desk.due("2 COINS", x.rule(3), 3);
        Desk.due("it is so", x.dye(0, 20), -1);
        Desk.due("above", x.dye(0, 21), -1);
        Desk.due("below", x.dye(0, -1), -1);
        Desk.due("no such, ahead of out of bounds", x.dye(3, 21), -1);
        status(x, 1, 2, 1, 0, 0);
        x.attempt(1, 2);
        Desk.due("knotted", x.dye(1, 0), -1);
        Desk.due("knotted", x.dye(2, 0), -1);
        Desk.due("to 0", x.dye(0, 0), 20);
        Desk.due("too few COINS", x.dye(0, 1), -1);
        Desk.due("it is so, ahead of too few", x.dye(0, 0), -1);
        status(x, 1, 2, 4, 1, 0);
        x.sell(1);
        Desk.due("SOLD", x.dye(1, 0), -1);
        status(x, 1, 2, 5, 1, 0);
        Desk.due("COINS", x.rule(3), 1 + 5);
        LooseEnds y = Desk.mill("sk2;t;t");
        Desk.due("just enough", y.dye(1, 3), 10);
        Desk.due("none left", y.rule(3), 0);
    }

    private static void giving() {
        LooseEnds x = Desk.mill("sk0;t;t");
        Desk.due("give(0)", x.give(0), -1);
        Desk.due("give(51)", x.give(51), -1);
        Desk.due("give(-1)", x.give(-1), -1);
        Desk.due("give the most", x.give(Integer.MAX_VALUE), -1);
        status(x, 0, 4, 0, 0, 0);
        Desk.due("give(50)", x.give(50), 50);
        Desk.due("give(1)", x.give(1), 51);
        LooseEnds y = rich(9990);
        Desk.due("above 9,999", y.give(10), -1);
        status(y, 0, 1, 0, 0, 0);
        Desk.due("9,999", y.give(9), 9999);
        Desk.due("one more", y.give(1), -1);
        y.days(1);
        Desk.due("a DAY brings no more", y.rule(3), 9999);
    }

    private static void passingDays() {
        LooseEnds x = Desk.mill("sg1k0;t;t;t");
        Desk.due("days(0)", x.days(0), -1);
        Desk.due("days(61)", x.days(61), -1);
        Desk.due("days(-5)", x.days(-5), -1);
        status(x, 0, 3, 0, 0, 0);
        x.attempt(0, 1);
        Desk.due("days(1)", x.days(1), 1);
        Desk.due("no TRIES any more", x.count(5), 0);
        Desk.due("COINS", x.rule(3), 1);
        Desk.due("KNOTS stay", x.thread(0, 4), 1);
        Desk.due("days(60)", x.days(60), 61);
        Desk.due("COINS", x.rule(3), 61);
        for (int i = 0; i < 15; i++) {
            x.days(60);
        }
        Desk.due("DAY", x.count(4), 961);
        Desk.due("beyond", x.days(39), -1);
        Desk.due("out of bounds, ahead of beyond", x.days(61), -1);
        status(x, 0, 4, 0, 0, 1);
        Desk.due("the last DAY", x.days(38), 999);
        Desk.due("none goes by then", x.days(1), -1);
        Desk.due("nor by YEARS", x.years(1, 1), -1);
        status(x, 0, 4, 0, 0, 2);
        Desk.due("ACTS go on", x.attempt(1, 2), 1);
    }

    private static void waking() {
        LooseEnds x = new LooseEnds();
        Desk.due("wakes(0)", x.wakes(0), true);
        Desk.due("wakes(0) is so", x.wakes(0), false);
        Desk.due("wakes(9)", x.wakes(9), true);
        Desk.due("wakes(10)", x.wakes(10), false);
        Desk.due("wakes(-1)", x.wakes(-1), false);
        Desk.due("WAKES", x.count(6), 9);
        status(x, 0, 0, 0, 0, 0);
    }

    private static long seed;

    private static int draw(int many) {
        seed = seed * 6364136223846793005L + 1442695040888963407L;
        return (int) ((seed >>> 33) % many);
    }

    /** The same DAYS once by YEARS and once by the calls that they stand for. */
    private static void drawing() {
        for (int wakes = 0; wakes <= 9; wakes += 3) {
            LooseEnds x = Desk.mill("sg2f1k3;tc9l9;tc11l8;tc10p3;t;tc13l12");
            LooseEnds y = Desk.mill("sg2f1k3;tc9l9;tc11l8;tc10p3;t;tc13l12");
            x.wakes(wakes);
            seed = -77L * (wakes + 1);
            Desk.due("YEARS", x.years(20, seed), 20);
            for (int day = 0; day < 20; day++) {
                for (int i = 0; i < 3; i++) {
                    int one = draw(5);
                    y.attempt(one, draw(5));
                }
                if (draw(10) < wakes) {
                    y.pull(draw(5));
                }
                y.days(1);
            }
            for (int end = 0; end < 5; end++) {
                for (int what = 0; what < 6; what++) {
                    Desk.due("YEARS: thread", x.thread(end, what), y.thread(end, what));
                }
            }
            for (int i = 0; i < 21; i++) {
                for (int what = 0; what < 3; what++) {
                    Desk.due("YEARS: log", x.log(i, what), y.log(i, what));
                }
            }
            status(x, 0, 0, 0, 0, 0);
            Desk.due("each DAY is one ACT", x.count(9), 20);
        }
        LooseEnds late = Desk.mill("t;t");
        for (int i = 0; i < 16; i++) {
            late.days(60);
        }
        Desk.due("beyond the last DAY", late.years(40, 5), -1);
        Desk.due("that changes nothing", late.count(4), 960);
        Desk.due("up to the last DAY", late.years(39, 5), 999);
        status(late, 0, 0, 0, 0, 0);
        LooseEnds x = Desk.mill("t;t");
        Desk.due("years(0)", x.years(0, 1), -1);
        Desk.due("years(61)", x.years(61, 1), -1);
        Desk.due("years(60)", x.years(60, Long.MIN_VALUE), 60);
        Desk.due("40 ACTS", x.count(9), 40);
        status(x, 0, 0, 0, 0, 0);
    }

    private static void refusing() {
        LooseEnds x = new LooseEnds();
        x.attempt(0, 0);
        x.pull(9);
        x.sell(-1);
        x.dye(0, 99);
        x.give(99);
        x.days(99);
        status(x, 6, 0, 0, 0, 0);
        x.undo();
        x.years(99, 0);
        x.image();
        x.back();
        x.wakes(99);
        x.law(9);
        x.text(0);
        x.seen(0, 0, true);
        status(x, 6, 0, 0, 0, 0);
        Desk.due("status(5)", x.status(5), -1);
        Desk.due("status(-1)", x.status(-1), -1);
    }

    private static void undoing() {
        LooseEnds x = Desk.mill("sk10;tl9;tl8;tc20");
        Desk.due("none", x.undo(), -1);
        x.attempt(0, 1);
        x.attempt(1, 2);
        x.pull(1);
        x.dye(2, 3);
        x.give(5);
        x.days(2);
        x.attempt(0, 1);
        x.sell(0);
        x.sell(0);
        Desk.due("nine ACTS", x.count(9), 9);
        Desk.due("COINS", x.rule(3), 15 + 8);
        Desk.due("unsold", x.undo(), 8);
        Desk.due("COINS back", x.rule(3), 15);
        Desk.due("none SOLD", x.most(4), 0);
        Desk.due("untried", x.undo(), 7);
        Desk.due("TRIES back", x.count(5), 0);
        Desk.due("COLOUR back", x.thread(0, 0), 9);
        Desk.due("a DAY back", x.undo(), 6);
        Desk.due("DAY", x.count(4), 1);
        Desk.due("LOG", x.count(8), 1);
        Desk.due("the first DAY back", x.undo(), 5);
        Desk.due("no LOG", x.log(0, 0), -1);
        Desk.due("TRIES of the DAY are back", x.count(5), 2);
        Desk.due("COINS", x.rule(3), 13);
        Desk.due("not given", x.undo(), 4);
        Desk.due("COINS", x.rule(3), 8);
        Desk.due("not dyed", x.undo(), 3);
        Desk.due("COLOUR", x.thread(2, 0), 19);
        Desk.due("not pulled", x.undo(), 2);
        Desk.due("knotted again", x.thread(0, 4), 1);
        Desk.due("as long again", x.thread(0, 2), 9);
        x.undo();
        Desk.due("nothing was", x.undo(), 0);
        Desk.due("LOOSE", x.most(3), 7);
        Desk.due("none left", x.undo(), -1);
        status(x, 0, 0, 1, 0, 0);
        x.give(1);
        Desk.due("ACTS again", x.count(9), 1);
        LooseEnds y = Desk.mill("t;t");
        y.days(60);
        Desk.due("the latest 40", y.count(9), 40);
        for (int i = 39; i >= 0; i--) {
            Desk.due("one by one", y.undo(), i);
        }
        Desk.due("no more", y.undo(), -1);
        Desk.due("DAY", y.count(4), 20);
    }

    private static void logging() {
        LooseEnds x = Desk.mill("sk50g9;t;t;t;tc20");
        x.attempt(0, 1);
        x.pull(0);
        x.attempt(3, 0);
        x.attempt(1, 2);
        x.days(1);
        Desk.due("TRIES", x.log(0, 0), 3);
        Desk.due("KNOTS, come off since, too", x.log(0, 1), 3);
        Desk.due("COINS as they are then", x.log(0, 2), 50);
        Desk.due("no such what", x.log(0, 3), -1);
        Desk.due("no such what", x.log(0, -1), -1);
        Desk.due("no such i", x.log(1, 0), -1);
        Desk.due("no such i", x.log(-1, 0), -1);
        x.days(60);
        Desk.due("the latest 60", x.count(8), 60);
        Desk.due("the earliest still there", x.log(59, 2), 51);
        Desk.due("the first is gone", x.log(60, 2), -1);
        x.undo();
        Desk.due("the first is back", x.log(59, 2), 50);
        Desk.due("its TRIES", x.log(59, 0), 3);
        x.give(10);
        x.days(60);
        for (int i = 0; i < 40; i++) {
            x.undo();
        }
        // DAY 80: the 60 DAYS ahead of it were 20 to 79
        Desk.due("DAY", x.count(4), 80);
        Desk.due("COINS of DAY 79", x.log(0, 2), 50 + 79 + 10);
        Desk.due("COINS of DAY 20", x.log(59, 2), 50 + 20);
    }
}
