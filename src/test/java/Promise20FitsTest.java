/** Promise 20: fits, and what paragraphs 1 and 2 of the Terms say of WORTH and GOING WITH. */
public final class Promise20FitsTest extends Cases {
    public static void main(String[] args) {
        run(Promise20FitsTest.class);
    }

    private static void of(String mill, int want) {
        due("fits(0, 1) of " + mill, mill(mill).fits(0, 1), want);
        due("fits(1, 0) of " + mill, mill(mill).fits(1, 0), want);
    }

    private static void by(LooseEnds x, String law, int want) {
        Desk.hold(x, law);
        due("by " + law, x.fits(0, 1), want);
    }

    private static void by(String law, int want) {
        by(mill("t;t"), law, want);
    }

    // ---- which ones

    static void noMill() {
        due("fits", new LooseEnds().fits(0, 1), NONE);
    }

    static void noSuchOnes() {
        int[][] wrong = {{-1, 0}, {0, -1}, {7, 0}, {0, 7}, {LEAST, 0}, {0, MOST}, {7, 7}};
        for (int[] pair : wrong) {
            refused(Cases::busy, x -> x.fits(pair[0], pair[1]), NONE, NO_STATUS);
        }
        due("of two ENDS", mill("t;t").fits(0, 2), NONE);
    }

    static void alike() {
        refused(Cases::busy, x -> x.fits(4, 4), NONE, NO_STATUS);
        refused(Cases::busy, x -> x.fits(2, 2), NONE, NO_STATUS);
    }

    static void soldOnesToo() {
        LooseEnds x = allSold(2);
        due("fits(0, 1)", x.fits(0, 1), 1);
        due("fits(1, 0)", x.fits(1, 0), 1);
    }

    static void knottedOnesToo() {
        LooseEnds x = oneTale(3);
        due("as they are knotted", x.fits(0, 1), 1);
        due("the other way", x.fits(1, 0), 1);
        due("ring", x.fits(2, 0), 1);
    }

    static void girlsDoNotMatter() {
        due("fits", noGirl().fits(0, 1), 1);
    }

    // ---- without a LAW

    static void worthOf1And0() {
        of("tc10;tc10", 1);
        of("tc10;tc12", 1);
        of("tc10;tc13", 0);
        of("tp2;tp3", 1);
        of("tp2;tp4", 0);
        of("tc1p2;tc2p3", 0);
    }

    static void nothingLetPass() {
        of("se0;t;t", 1);
        of("se0;tc10;tc11", 0);
        of("se0;tp1;tp2", 0);
    }

    static void nineLetPass() {
        of("se9;tc0;tc9", 1);
        of("se9;tc0;tc10", 0);
        of("se9;tp1;tp5", 1);
        of("se9;tp1;tp6", 0);
        of("se9;tp1c0;tp5c1", 1);
        of("se9;tp1c0;tp5c2", 0);
    }

    static void lengthsDoNotMatter() {
        of("tl1;tl20", 1);
    }

    static void coloursAsTheyAreNow() {
        LooseEnds x = mill("tc10;tc13");
        x.dye(0, 11);
        due("2 apart", x.fits(0, 1), 1);
        x.dye(0, 16);
        due("3 apart", x.fits(0, 1), 0);
    }

    // ---- letters

    static void cFrom0To20() {
        by(mill("tc0;tc20"), "y:c-19", 1);
        by(mill("tc0;tc20"), "y:c-20", 0);
        by(mill("tc20;tc0"), "y:c=20?1", 1);
        by(mill("tc7;tc7"), "y:c=0?1", 1);
    }

    static void pFrom0To5() {
        by(mill("tp1;tp6"), "y:p=5?1", 1);
        by(mill("tp6;tp1"), "y:p=5?1", 1);
        by(mill("tp6;tp6"), "y:p=0?1", 1);
    }

    static void lFrom2To40() {
        by(mill("tl1;tl1"), "y:l=2?1", 1);
        by(mill("tl20;tl20"), "y:l=40?1", 1);
        LooseEnds x = oneTale(2);
        x.pull(0);
        by(x, "y:l=9?1", 1);
    }

    static void eFrom0To9() {
        by(mill("se0;t;t"), "y:e=0?1", 1);
        by(mill("se9;t;t"), "y:e=9?1", 1);
        by(mill("t;t"), "y:e=2?1", 1);
    }

    static void nFrom1To7() {
        by(mill("t;t"), "y:n=1?1", 1);
        by(oneTale(7), "y:n=7?1", 1);
        LooseEnds x = mill("t;t;t");
        knot(x, 0, 1);
        Desk.hold(x, "y:n=2?1");
        due("the first of two", x.fits(0, 2), 1);
        due("the last of two", x.fits(1, 2), 1);
        due("a single one with one of two", x.fits(2, 0), 0);
    }

    static void tFrom0To999() {
        by(mill("t;t"), "y:t=0?1", 1);
        by(on(1, "t;t"), "y:t=1?1", 1);
        by(on(999, "t;t"), "y:t=999?1", 1);
    }

    // ---- WORTH

    static void above0() {
        by("y:0", 0);
        by("y:1", 1);
        by("y:0-1", 0);
        by("y:9999", 1);
    }

    static void theFirstClauseWhoseConditionHolds() {
        by("y:1=1?1;y:1=1?0", 1);
        by("y:1=2?0;y:1=1?1;y:0", 1);
        by("y:1=1?0;y:1", 0);
    }

    static void aClauseWithoutAConditionHolds() {
        by("y:0;y:1", 0);
        by("y:1;y:0", 1);
        by("y:1=2?0;y:1;y:0", 1);
    }

    static void noughtIfNoneHolds() {
        by("y:1=2?1", 0);
        by("y:1=2?1;y:2=1?1", 0);
    }

    static void equalLessMore() {
        by("y:2=2?1", 1);
        by("y:2=3?1", 0);
        by("y:2<3?1", 1);
        by("y:2<2?1", 0);
        by("y:3<2?1", 0);
        by("y:3>2?1", 1);
        by("y:2>2?1", 0);
        by("y:2>3?1", 0);
    }

    static void andOrNot() {
        String[][] signs = {{"1=2", "1=1"}, {"2<2", "1<2"}, {"2>2", "2>1"}};
        for (String[] truths : signs) {
            andOrNot(truths);
        }
    }

    private static void andOrNot(String[] truths) {
        for (int a = 0; a < 2; a++) {
            by("y:!" + truths[a] + "?1", 1 - a);
            by("y:!!" + truths[a] + "?1", a);
            for (int b = 0; b < 2; b++) {
                by("y:" + truths[a] + "&" + truths[b] + "?1", a & b);
                by("y:" + truths[a] + "|" + truths[b] + "?1", a | b);
                by("y:!" + truths[a] + "&" + truths[b] + "?1", (1 - a) & b);
                by("y:!(" + truths[a] + "&" + truths[b] + ")?1", 1 - (a & b));
                for (int c = 0; c < 2; c++) {
                    by("y:" + truths[a] + "|" + truths[b] + "&" + truths[c] + "?1", a | b & c);
                    by("y:(" + truths[a] + "|" + truths[b] + ")&" + truths[c] + "?1", (a | b) & c);
                }
            }
        }
    }

    static void signsFromTheLeft() {
        by("y:5-3-2", 0);
        by("y:5-[3-2]-3", 1);
        by("y:8/4/2", 1);
        by("y:8/4*2-3", 1);
        by("y:2+3*4-13", 1);
        by("y:[2+3]*4-19", 1);
        by("y:2*3+4*5-25", 1);
    }

    static void cutTowards0() {
        by("y:7/2-2", 1);
        by("y:7/2-3", 0);
        by("y:[0-7]/2+4", 1);
        by("y:[0-7]/2+3", 0);
        by("y:7/[0-2]+4", 1);
        by("y:7/[0-2]+3", 0);
        by("y:[0-7]/[0-2]-2", 1);
        by("y:[0-1]/2+1", 1);
        by("y:1/2", 0);
    }

    static void by0Gives0() {
        by("y:7/0", 0);
        by("y:7/0+1", 1);
        by("y:0/0+1", 1);
        by("y:[0-7]/0+1", 1);
        by("y:7/[2-2]+1", 1);
        by("y:7/c+1", 1);
    }

    static void withinAMillion() {
        by("y:1000*1000-1000*999-999", 1);
        by("y:1000*1000-1-[1000*1000-2]", 1);
        by("y:1000*1000+1-1000*1000", 0);
        by("y:9999*9999-1000*1000", 0);
        by("y:9999*9999-1000*1000+1", 1);
        by("y:9999*9999/1000-999", 1);
        by("y:9999*9999/1000-1000", 0);
        by("y:9999*9999*9999*9999=1000*1000?1", 1);
    }

    static void withinAMillionBelow0() {
        by("y:0-1000*1000+1000*1000+1", 1);
        by("y:0-1000*1000-1+1000*1000", 0);
        by("y:0-1000*1000-1+1000*1000+1", 1);
        by("y:[0-9999]*9999+1000*1000+1", 1);
        by("y:[0-9999]*9999+1000*1000", 0);
        by("y:[0-9999]*9999*9999=0-1000*1000?1", 1);
        by("y:[0-9999]*9999*[0-9999]=1000*1000?1", 1);
    }

    static void sixDeep() {
        by("y:0=1|1=1&(0=1|1=1&(0=1|1=1&(1=1+1*[0+1*[0+1*[1-1]]])))?1", 1);
        by("y:0=1|1=1&(0=1|1=1&(0=1|1=1&(1=1+1*[0+1*[0+1*[2-1]]])))?1", 0);
        by("y:1+1*[1+1*[1+1*[1+1*[1+1*[1+1*[1-6]]]]]]", 1);
        by("y:1+1*[1+1*[1+1*[1+1*[1+1*[1+1*[1-7]]]]]]", 0);
        by("y:!!!!!!1=1?1", 1);
        by("y:!!!!!1=1?1", 0);
    }

    static void asLongAsTheTape() {
        by("y:118" + "-1".repeat(117), 1);
        by("y:117" + "-1".repeat(117), 0);
        by("y:1=2?1;".repeat(29) + "y:1", 1);
        by("y:1=2?1;".repeat(29) + "y:0", 0);
    }
}
