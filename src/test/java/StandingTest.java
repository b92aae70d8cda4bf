/** Promises 32 to 37: what is, IMAGES, counts. */
public final class StandingTest {
    public static void main(String[] args) {
        stories();
        sharing();
        mostOfAll();
        racking();
        worthOfTales();
        images();
        imagesOfLogs();
        counts();
        Desk.finish("StandingTest");
    }

    private static void story(LooseEnds x, int end, int... want) {
        for (int what = 0; what < want.length; what++) {
            Desk.due("story(" + end + ", " + what + ")", x.story(end, what), want[what]);
        }
    }

    private static void stories() {
        LooseEnds x = Desk.mill("sg9;tl4;tl5;tl6;tl7");
        story(x, 2, 2, 2, 1, 6, 0, -1);
        x.attempt(2, 0);
        x.attempt(0, 3);
        story(x, 0, 2, 3, 3, 17, 12, -1);
        story(x, 2, 2, 3, 3, 17, 1);
        story(x, 3, 2, 3, 3, 17, 1);
        story(x, 1, 1, 1, 1, 5, 0);
        x.sell(2);
        story(x, 0, 2, 3, 3, 17, 0);
        Desk.due("no such END", x.story(4, 0), -1);
        Desk.due("no such END", x.story(-1, 0), -1);
        Desk.due("no such what", x.story(0, -1), -1);
    }

    private static void sharing() {
        LooseEnds x = Desk.mill("tl1;tl20;tl9");
        Desk.due("shares", x.shares(0, 999), 33);
        Desk.due("shares", x.shares(1, 999), 666);
        Desk.due("shares", x.shares(2, 100), 30);
        Desk.due("shares of 0", x.shares(2, 0), 0);
        Desk.due("above", x.shares(0, 1000), -1);
        Desk.due("below", x.shares(0, -1), -1);
        Desk.due("no such", x.shares(3, 1), -1);
        x.attempt(0, 1);
        x.attempt(1, 2);
        x.pull(1);
        // 1, 20, 8 now
        Desk.due("LENGTHS now", x.shares(2, 290), 80);
        x.attempt(0, 1);
        x.sell(0);
        Desk.due("of all, SOLD ones, too", x.shares(0, 290), 10);
    }

    private static void mostOfAll() {
        LooseEnds x = Desk.mill("tc9p1l3;tc14p5l9;tc14p5l9;tc2p3l1");
        Desk.due("LONGEST, the lowest", x.most(0), 1);
        Desk.due("BRIGHTEST", x.most(1), 1);
        Desk.due("THICKEST", x.most(2), 1);
        x.attempt(1, 3);
        Desk.due("BRIGHTEST now", x.most(1), 2);
        x.attempt(1, 2);
        x.pull(1);
        Desk.due("LONGEST now", x.most(0), 1);
        x.attempt(1, 2);
        x.sell(1);
        Desk.due("SOLD ones, too", x.most(0), 1);
        Desk.due("LOOSE", x.most(3), 9);
        Desk.due("SOLD", x.most(4), 6);
        Desk.due("most(8)", x.most(8), -1);
        Desk.due("most(-1)", x.most(-1), -1);
        LooseEnds y = Desk.mill("t;t;t");
        y.attempt(0, 2);
        Desk.due("LOOSE", y.most(3), 2);
        Desk.due("none SOLD", y.most(4), 0);
    }

    private static void racking() {
        LooseEnds x = Desk.mill("sf0;tc0;tc20;tc20;tc10;tc11");
        Desk.due("RACK", x.most(5), 1);
        x.attempt(1, 2);
        Desk.due("knotted ones are not LOOSE", x.most(5), 1);
        LooseEnds y = Desk.mill("sf0;tc0;tc20;tc20;tc10;tc20");
        y.attempt(1, 2);
        Desk.due("a KNOTTED one does not help", y.most(5), 1 + 8 + 16);
        y.sell(1);
        Desk.due("nor a SOLD one", y.most(5), 1 + 8 + 16);
        Desk.hold(y, "y:n");
        Desk.due("none on the RACK", y.most(5), 0);
    }

    private static void worthOfTales() {
        LooseEnds x = Desk.mill("sg9;tl5;tl6;tl7;tl8;tl9");
        Desk.due("no TALE", x.most(6), 0);
        Desk.due("no WORTH", x.most(7), 0);
        x.attempt(0, 1);
        x.attempt(2, 3);
        Desk.due("two TALES", x.most(6), 2);
        // 22 by 4 and 30 by 4, each cut
        Desk.due("WORTH", x.most(7), 5 + 7);
        x.attempt(3, 4);
        Desk.due("WORTH", x.most(7), 5 + 18);
        x.sell(0);
        Desk.due("one TALE", x.most(6), 1);
        Desk.due("WORTH", x.most(7), 18);
    }

    private static void images() {
        LooseEnds x = Desk.mill("sg9k9;tl5;tl6;tl7");
        Desk.due("no IMAGE", x.back(), -1);
        x.attempt(0, 1);
        x.days(1);
        x.attempt(1, 2);
        Desk.due("image", x.image(), 1);
        Desk.due("an IMAGE is no ACT", x.count(9), 3);
        x.pull(1);
        x.dye(0, 3);
        x.attempt(2, 1);
        x.sell(2);
        x.days(4);
        x.seen(0, 1, true);
        Desk.due("back", x.back(), 1);
        Desk.due("no ACT", x.undo(), -1);
        Desk.due("ACTS", x.count(9), 0);
        int[][] want = {{9, 2, 5, 0, 1, -1}, {8, 2, 6, 0, 2, 0}, {9, 2, 7, 0, -1, 1}};
        for (int end = 0; end < 3; end++) {
            for (int what = 0; what < 6; what++) {
                Desk.due("back: thread", x.thread(end, what), want[end][what]);
            }
        }
        Desk.due("COINS", x.rule(3), 10);
        Desk.due("TRIES", x.count(5), 1);
        Desk.due("LOG", x.count(8), 1);
        Desk.due("SEEN stays", x.count(7), 1);
        x.days(1);
        Desk.due("KNOTS of the DAY", x.log(0, 1), 2);
        Desk.due("undo after back", x.undo(), 0);
        x.give(50);
        Desk.due("back again", x.back(), 1);
        Desk.due("COINS", x.rule(3), 10);
        x.days(2);
        Desk.due("another IMAGE", x.image(), 3);
        x.days(2);
        Desk.due("back to that one", x.back(), 3);
        Desk.tell(x, "t;t");
        Desk.due("no IMAGE of this MILL", x.back(), -1);
        Desk.due("no STATUS by that", x.status(0), 0);
    }

    private static void imagesOfLogs() {
        LooseEnds x = Desk.mill("sk0;t;t");
        x.days(60);
        x.days(20);
        x.image();
        // other COINS on the DAYS that the IMAGE has in its LOG
        for (int i = 0; i < 30; i++) {
            x.undo();
        }
        x.give(50);
        x.days(40);
        Desk.due("another LOG", x.log(0, 2), 50 + 89);
        x.back();
        for (int i = 0; i < 60; i++) {
            Desk.due("the LOG is so again", x.log(i, 2), 79 - i);
        }
        Desk.due("60 of it", x.log(60, 2), -1);
        x.days(30);
        Desk.due("it goes on", x.log(59, 2), 50);
    }

    private static void counts() {
        LooseEnds x = Desk.mill("t;t;t;t");
        Desk.addLaw(x, "y:1");
        Desk.hold(x, "y:2");
        x.days(2);
        x.attempt(0, 1);
        x.wakes(0);
        x.seen(0, 1, false);
        Desk.feed(x, "abc");
        int[] want = {4, 2, 3, 1, 2, 1, 0, 1, 2, 3};
        for (int what = 0; what < want.length; what++) {
            Desk.due("count(" + what + ")", x.count(what), want[what]);
        }
        Desk.due("count(10)", x.count(10), LooseEnds.HIDDEN);
    }
}
