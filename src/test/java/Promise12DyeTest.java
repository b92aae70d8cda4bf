/** Promise 12: dye. */
public final class Promise12DyeTest extends Cases {
    public static void main(String[] args) {
        run(Promise12DyeTest.class);
    }

    private static void refusedOfBusy(int end, int colour, int kind) {
        refused(Cases::busy, x -> x.dye(end, colour), NONE, kind);
    }

    private static void refusedOf(String mill, int end, int colour, int kind) {
        refused(() -> mill(mill), x -> x.dye(end, colour), NONE, kind);
    }

    static void noSuchEnd() {
        refusedOfBusy(-1, 5, 0);
        refusedOfBusy(7, 5, 0);
        refusedOfBusy(LEAST, 5, 0);
        refusedOfBusy(MOST, 5, 0);
        refusedOf("t;t", 2, 5, 0);
    }

    static void outOfBounds() {
        refusedOfBusy(4, -1, 1);
        refusedOfBusy(4, 21, 1);
        refusedOfBusy(4, LEAST, 1);
        refusedOfBusy(4, MOST, 1);
    }

    static void colours0And20() {
        LooseEnds x = busy();
        due("to 0", x.dye(4, 0), 11);
        due("to 20", x.dye(4, 20), 0);
        due("COLOUR", x.thread(4, 0), 20);
    }

    static void sold() {
        refusedOfBusy(2, 5, 2);
        refusedOfBusy(3, 5, 2);
    }

    static void knotted() {
        refusedOfBusy(0, 5, 2);
        refusedOfBusy(1, 5, 2);
        refused(() -> oneTale(3), x -> x.dye(1, 5), NONE, 2);
    }

    static void itIsSo() {
        refusedOfBusy(4, 11, 2);
        refusedOfBusy(5, 20, 2);
        refusedOfBusy(6, 0, 2);
    }

    static void tooFewCoins() {
        refusedOf("sk0;t;t", 0, 5, 3);
        refusedOf("sk1;t;t", 0, 5, 3);
    }

    static void justEnoughCoins() {
        LooseEnds x = mill("sk2;t;t");
        due("dye", x.dye(0, 5), 10);
        due("COINS", x.rule(3), 0);
        LooseEnds y = mill("sk3;t;t");
        due("dye", y.dye(0, 5), 10);
        due("COINS", y.rule(3), 1);
        due("once more", y.dye(0, 6), NONE);
    }

    static void ofSeveralTheFirst() {
        refusedOfBusy(7, 21, 0);
        refusedOfBusy(2, 21, 1);
        refusedOfBusy(0, -1, 1);
        refusedOf("sk0;t;t", 2, 5, 0);
        refusedOf("sk0;t;t", 0, 21, 1);
        refusedOf("sk0;t;t", 0, 10, 2);
        refused(() -> {
            LooseEnds x = mill("sk0;t;t");
            knot(x, 0, 1);
            return x;
        }, x -> x.dye(0, 5), NONE, 2);
    }

    static void theColourThatWas() {
        LooseEnds x = mill("tc3;t");
        due("told", x.dye(0, 7), 3);
        due("DYED", x.dye(0, 8), 7);
        x.attempt(0, 1);
        x.pull(0);
        due("FADED", x.dye(0, 8), 7);
    }

    static void aPulledOneCanBeDyed() {
        LooseEnds x = oneTale(2);
        x.pull(1);
        due("the one", x.dye(0, 1), 10);
        due("the other", x.dye(1, 1), 10);
    }

    static void nothingElseChanges() {
        LooseEnds x = mill("tc3p3l3;t");
        x.dye(0, 7);
        thread(x, 0, 7, 3, 3, 0, NONE, NONE);
        thread(x, 1, 10, 2, 5, 0, NONE, NONE);
        due("TRIES", x.count(5), 0);
    }

    static void onTheLastDay() {
        due("dye", on(999, "t;t").dye(0, 3), 10);
    }

    static void aDyeIsOneAct() {
        LooseEnds x = mill("t;t");
        x.dye(1, 0);
        due("ACTS", x.count(9), 1);
        x.undo();
        due("COLOUR", x.thread(1, 0), 10);
        due("COINS", x.rule(3), 20);
    }
}
