/** Promise 32: story. */
public final class Promise32StoryTest extends Cases {
    public static void main(String[] args) {
        run(Promise32StoryTest.class);
    }

    private static void story(LooseEnds x, int end, int... want) {
        for (int what = 0; what < want.length; what++) {
            due("story(" + end + ", " + what + ")", x.story(end, what), want[what]);
        }
    }

    static void noMill() {
        story(new LooseEnds(), 0, NONE, NONE, NONE, NONE, NONE);
    }

    static void noSuchEnd() {
        int[] wrong = {-1, 7, LEAST, MOST};
        for (int end : wrong) {
            for (int what = 0; what < 5; what++) {
                int asked = what;
                refused(Cases::busy, x -> x.story(end, asked), NONE, NO_STATUS);
            }
        }
        due("of two ENDS", mill("t;t").story(2, 0), NONE);
    }

    static void noSuchWhat() {
        int[] wrong = {-1, 5, LEAST, MOST};
        for (int what : wrong) {
            refused(Cases::busy, x -> x.story(0, what), NONE, NO_STATUS);
        }
    }

    static void alone() {
        LooseEnds x = mill("tl1;t;t;t;t;t;tl20");
        story(x, 0, 0, 0, 1, 1, 0);
        story(x, 6, 6, 6, 1, 20, 0);
    }

    static void ofTwo() {
        LooseEnds x = mill("sf0;tl4;tl5;tl6");
        knot(x, 2, 0);
        story(x, 2, 2, 0, 2, 10, 1);
        story(x, 0, 2, 0, 2, 10, 4);
        story(x, 1, 1, 1, 1, 5, 0);
    }

    static void ofSeven() {
        LooseEnds x = mill("sf0g9;tl20;tl20;tl20;tl20;tl20;tl20;tl20");
        knot(x, 0, 1, 2, 3, 4, 5, 6);
        story(x, 0, 0, 6, 7, 140, 2);
        story(x, 3, 0, 6, 7, 140, 4 + 16);
        story(x, 6, 0, 6, 7, 140, 32);
    }

    static void ofSevenTheOtherWay() {
        LooseEnds x = alike(7, "sf0g9");
        knot(x, 6, 5, 4, 3, 2, 1, 0);
        story(x, 0, 6, 0, 7, 35, 2);
        story(x, 6, 6, 0, 7, 35, 32);
    }

    static void offOfASoldOneIs0() {
        LooseEnds x = allSold(3);
        story(x, 0, 0, 2, 3, 15, 0);
        story(x, 1, 0, 2, 3, 15, 0);
        story(x, 2, 0, 2, 3, 15, 0);
    }

    static void lengthAsItIsNow() {
        LooseEnds x = alike(3, "sf0");
        knot(x, 0, 1, 2);
        x.pull(2);
        story(x, 0, 0, 1, 2, 9, 2);
        story(x, 2, 2, 2, 1, 5, 0);
    }

    static void offIsWhatAPullDoes() {
        LooseEnds x = alike(7, "sf0g9");
        knot(x, 0, 1, 2, 3, 4);
        int off = x.story(2, 4);
        due("OFF", off, 2 + 8);
        due("KNOTS that come off", x.pull(2), Integer.bitCount(off));
        due("1 has none behind it", x.thread(1, 4), NONE);
        due("3 has none ahead of it", x.thread(3, 5), NONE);
        due("OFF then", x.story(2, 4), 0);
    }
}
