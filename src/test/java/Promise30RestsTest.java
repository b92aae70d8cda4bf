/**
 * Promise 30: rests. (There is always one: what two have of one another is the
 * same for both, so that of all x and y those by which that and what each has
 * of others come to most together are a REST.)
 */
public final class Promise30RestsTest extends Cases {
    public static void main(String[] args) {
        run(Promise30RestsTest.class);
    }

    private static void rests(LooseEnds x, int one, int other, int... want) {
        due("how many", x.rests(one, other, NONE), want.length);
        for (int i = 0; i < want.length; i++) {
            due("rests(" + one + ", " + other + ", " + i + ")", x.rests(one, other, i), want[i]);
        }
        int[] none = {want.length, want.length + 1, 16, -2, LEAST, MOST};
        for (int i : none) {
            due("rests(" + one + ", " + other + ", " + i + ")", x.rests(one, other, i), NONE);
        }
    }

    static void noMill() {
        due("how many", new LooseEnds().rests(0, 1, NONE), NONE);
        due("the first", new LooseEnds().rests(0, 1, 0), NONE);
    }

    static void noSuchEnds() {
        int[][] wrong = {{-1, 0}, {0, -1}, {7, 0}, {0, 7}, {LEAST, 0}, {0, MOST}};
        for (int[] pair : wrong) {
            refused(Cases::busy, x -> x.rests(pair[0], pair[1], NONE), NONE, NO_STATUS);
            refused(Cases::busy, x -> x.rests(pair[0], pair[1], 0), NONE, NO_STATUS);
        }
        due("of two ENDS", mill("t;t").rests(0, 2, NONE), NONE);
    }

    static void alike() {
        refused(Cases::busy, x -> x.rests(0, 0, NONE), NONE, NO_STATUS);
        refused(Cases::busy, x -> x.rests(6, 6, 0), NONE, NO_STATUS);
    }

    static void noSuchOne() {
        int[] wrong = {16, -2, LEAST, MOST};
        for (int i : wrong) {
            refused(Cases::busy, x -> x.rests(0, 1, i), NONE, NO_STATUS);
        }
    }

    static void noughtAndNought() {
        rests(alike(2, ""), 0, 1, 0);
        rests(mill("tc0;tc20"), 0, 1, 0);
        rests(mill("tc20;tc20"), 0, 1, 0);
    }

    static void threeAndThree() {
        // five others are 3 on: 3 and 3 is worth more than all else
        LooseEnds x = mill("se0;tc10;tc10;tc13;tc13;tc13;tc13;tc13");
        rests(x, 0, 1, 33);
    }

    static void tenTimesTheFirst() {
        // 0 gains by 3 what three others bring, 1 by nothing
        LooseEnds x = mill("se0;tc7;tc0;tc10;tc10;tc10;tc10");
        rests(x, 0, 1, 30);
        rests(x, 1, 0, 3);
    }

    static void severalRising() {
        rests(mill("tc10;tc12;tc13p3;tc15l8;tc10l1"), 0, 1, byGame(mill("tc10;tc12;tc13p3;tc15l8;tc10l1"), 0, 1));
        // as soon as 0 is one nearer, it has one more, and one less
        rests(mill("se0;tc10;tc0;tc11"), 0, 1, 0, 10);
        rests(mill("se0;tc0;tc10;tc11"), 0, 1, 0, 1);
        rests(mill("se0;tc0;tc10;tc1;tc11"), 0, 1, 0, 1, 10, 11);
    }

    private static int[] byGame(LooseEnds x, int one, int other) {
        int[] found = new int[16];
        int many = 0;
        for (int a = 0; a < 4; a++) {
            for (int b = 0; b < 4; b++) {
                boolean rest = true;
                for (int k = 0; k < 4; k++) {
                    rest &= x.game(one, other, k, b, 0) <= x.game(one, other, a, b, 0);
                    rest &= x.game(one, other, a, k, 1) <= x.game(one, other, a, b, 1);
                }
                if (rest) {
                    found[many] = 10 * a + b;
                    many++;
                }
            }
        }
        return java.util.Arrays.copyOf(found, many);
    }

    static void asByGame() {
        String[] mills = {"tc0;tc0;tc3;tc1;tc4", "se0;tc18;tc17;tc20;tc20;tc19", "se1;tc5;tc7;tc8;tc9;tc10;tc11;tc6"};
        for (String mill : mills) {
            LooseEnds x = mill(mill);
            rests(x, 0, 1, byGame(x, 0, 1));
            LooseEnds y = mill(mill);
            rests(y, 2, 0, byGame(y, 2, 0));
        }
    }

    static void soldAndKnottedOnesToo() {
        rests(allSold(7), 0, 1, 0);
        rests(oneTale(7), 6, 0, 0);
    }
}
