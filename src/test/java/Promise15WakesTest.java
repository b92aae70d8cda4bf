/** Promise 15: wakes. */
public final class Promise15WakesTest extends Cases {
    public static void main(String[] args) {
        run(Promise15WakesTest.class);
    }

    private static LooseEnds waking(int v) {
        LooseEnds x = busy();
        x.wakes(v);
        due("WAKES", x.count(6), v);
        return x;
    }

    private static void isNot(int was, int v) {
        refused(() -> waking(was), x -> x.wakes(v) ? 1 : 0, 0, NO_STATUS);
    }

    static void oneAtFirst() {
        due("WAKES", new LooseEnds().count(6), 1);
        due("it is so", new LooseEnds().wakes(1), false);
    }

    static void from0To9() {
        LooseEnds x = new LooseEnds();
        for (int v = 9; v >= 0; v--) {
            due("wakes(" + v + ")", x.wakes(v), true);
            due("WAKES", x.count(6), v);
        }
    }

    static void outOfBounds() {
        isNot(4, -1);
        isNot(4, 10);
        isNot(4, LEAST);
        isNot(4, MOST);
    }

    static void itIsSo() {
        isNot(0, 0);
        isNot(5, 5);
        isNot(9, 9);
    }

    static void noActAndNotUndone() {
        LooseEnds x = busy();
        int acts = x.count(9);
        x.wakes(3);
        due("ACTS", x.count(9), acts);
        x.undo();
        due("not UNDONE", x.count(6), 3);
        x.back();
        due("nor by BACK", x.count(6), 3);
        x.end(3);
        x.text(0);
        due("nor by a MILL", x.count(6), 3);
    }
}
