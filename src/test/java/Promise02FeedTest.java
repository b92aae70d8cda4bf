/** Promise 2: feed. */
public final class Promise02FeedTest extends Cases {
    public static void main(String[] args) {
        run(Promise02FeedTest.class);
    }

    /** So many bytes on the TAPE: t;t and blanks. */
    private static LooseEnds tape(int bytes) {
        LooseEnds x = new LooseEnds();
        due("feed", Desk.feed(x, "t;t" + " ".repeat(bytes - 3)), bytes);
        return x;
    }

    static void aByteComesFromEachOfTwentyPlaces() {
        for (int place = 0; place < 20; place++) {
            int[] n = new int[5];
            n[place / 4] = 'x' << 24 - 8 * (place % 4);
            due("a byte at " + place, new LooseEnds().feed(n[0], n[1], n[2], n[3], n[4]), 1);
        }
    }

    static void bytesOf0AreLeftOut() {
        LooseEnds x = new LooseEnds();
        due("t ; t among zeros", x.feed(0x74000000, 0x003B0000, 0x00000074, 0, 0), 3);
        due("they stand side by side", x.fault(0), NONE);
    }

    static void nothingButZeros() {
        due("on an empty TAPE", new LooseEnds().feed(0, 0, 0, 0, 0), 0);
        due("on another one", tape(7).feed(0, 0, 0, 0, 0), 7);
    }

    static void twentyBytes() {
        due("all bits", new LooseEnds().feed(-1, -1, -1, -1, -1), 20);
        due("the lowest bits", new LooseEnds().feed(0x01010101, 0x01010101, 0x01010101, 0x01010101, 0x01010101), 20);
        due("the highest bits", new LooseEnds().feed(0x80808080, 0x80808080, 0x80808080, 0x80808080, 0x80808080), 20);
    }

    static void theHighestByteFirst() {
        LooseEnds x = new LooseEnds();
        x.feed(0x743B7478, 0, 0, 0, 0);
        due("the x is the last one", x.fault(0), 3);
    }

    static void theFirstNumberFirst() {
        String signs = "t;tx;";
        LooseEnds x = new LooseEnds();
        x.feed(signs.charAt(0), signs.charAt(1), signs.charAt(2), signs.charAt(3), signs.charAt(4));
        due("the x is the fourth one", x.fault(0), 3);
    }

    static void theyComeBehindWhatIsThere() {
        LooseEnds x = tape(3);
        due("one more", x.feed(0, 0, 0, 0, 'x'), 4);
        due("it stands behind", x.fault(0), 3);
    }

    static void bytesAbove127() {
        LooseEnds x = new LooseEnds();
        due("three", x.feed(0x74FF8000, 0, 0, 0, 0), 3);
        due("255 is a FAULT", x.fault(0), 1);
    }

    static void twoHundredAndForty() {
        LooseEnds x = new LooseEnds();
        for (int i = 1; i <= 12; i++) {
            due("feed " + i, x.feed(-1, -1, -1, -1, -1), 20 * i);
        }
        due("count", x.count(2), 240);
    }

    static void twoHundredAndThirtyNineAndOne() {
        due("240", tape(239).feed(0, 0, ' ', 0, 0), 240);
    }

    static void oneMoreThan240() {
        refused(() -> tape(240), x -> x.feed(0, 0, 0, 0, 1), NONE, NO_STATUS);
        refused(() -> tape(239), x -> x.feed(1, 0, 0, 0, 1), NONE, NO_STATUS);
        refused(() -> tape(221), x -> x.feed(-1, -1, -1, -1, -1), NONE, NO_STATUS);
        due("20 behind 220", tape(220).feed(-1, -1, -1, -1, -1), 240);
    }

    static void whatIsLeftOutDoesNotCountFor240() {
        due("15 of 20 behind 225", tape(225).feed(-1, 0x00FFFFFF, 0x00FFFFFF, 0x00FFFFFF, 0x0000FFFF), 240);
        due("nothing at 240", tape(240).feed(0, 0, 0, 0, 0), 240);
    }

    static void aRefusedFeedBringsNoneOfItsBytes() {
        LooseEnds x = tape(238);
        due("three", x.feed(0x78787800, 0, 0, 0, 0), NONE);
        due("count", x.count(2), 238);
        due("the TAPE is a MILL as it was", x.fault(0), NONE);
        due("two", x.feed(0x20200000, 0, 0, 0, 0), 240);
        due("still a MILL", x.fault(0), NONE);
    }

    static void thereIsRoomAgainOnceTheTapeIsCut() {
        LooseEnds x = tape(240);
        x.end(220);
        due("20 more", x.feed(-1, -1, -1, -1, -1), 240);
    }

    static void noStatusAndNoAct() {
        LooseEnds x = busy();
        int acts = x.count(9);
        x.feed(1, 1, 1, 1, 1);
        due("ACTS", x.count(9), acts);
        status(x, 0, 0, 0, 0, 0);
    }
}
