/** Promise 3: end. */
public final class Promise03EndTest extends Cases {
    public static void main(String[] args) {
        run(Promise03EndTest.class);
    }

    private static LooseEnds tape(String text) {
        LooseEnds x = new LooseEnds();
        Desk.feed(x, text);
        return x;
    }

    private static void cut(String text, int n, int left) {
        LooseEnds x = tape(text);
        due("end(" + n + ")", x.end(n), true);
        due("left", x.count(2), left);
    }

    private static void notCut(String text, int n) {
        refused(() -> tape(text), x -> x.end(n) ? 1 : 0, 0, NO_STATUS);
    }

    static void nothing() {
        cut("t;t", 0, 0);
    }

    static void theLastByteAlone() {
        cut("t;t", 2, 2);
    }

    static void allOfIt() {
        cut("t;t", 3, 3);
    }

    static void moreThanThereIs() {
        notCut("t;t", 4);
        notCut("t;t", 240);
        notCut("t;t", MOST);
    }

    static void below0() {
        notCut("t;t", -1);
        notCut("t;t", LEAST);
    }

    static void anEmptyTape() {
        cut("", 0, 0);
        notCut("", 1);
        notCut("", -1);
    }

    static void aFullTape() {
        String full = "t;t" + " ".repeat(237);
        cut(full, 240, 240);
        cut(full, 239, 239);
        notCut(full, 241);
    }

    static void theFirstOnesStay() {
        LooseEnds x = tape("t;tx");
        x.end(3);
        due("t;t", x.fault(0), NONE);
    }

    static void whatWasCutIsGone() {
        LooseEnds x = tape("t;tx");
        x.end(3);
        due("end(4)", x.end(4), false);
        x.feed(' ', 0, 0, 0, 0);
        due("no x comes back", x.fault(0), NONE);
    }

    static void moreComesBehindTheCut() {
        LooseEnds x = tape("t;x");
        x.end(2);
        due("three", x.feed('t', 0, 0, 0, 0), 3);
        due("t;t", x.fault(0), NONE);
    }

    static void theTapeOfAMillIsEmptyThen() {
        LooseEnds x = mill("t;t");
        due("end(1)", x.end(1), false);
        due("end(0)", x.end(0), true);
    }
}
