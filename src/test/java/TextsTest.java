/** Promises 1 to 8: a new object, the TAPE, FAULTS, MILLS and LAWS. */
public final class TextsTest {
    public static void main(String[] args) {
        newObject();
        feeding();
        cutting();
        millFaults();
        lawFaults();
        faultSorts();
        tellingMills();
        tellingLaws();
        rules();
        threads();
        holding();
        reckoning();
        conditions();
        letters();
        Desk.finish("TextsTest");
    }

    private static void newObject() {
        LooseEnds x = new LooseEnds();
        int[] want = {0, 0, 0, -1, 0, 0, 1, 0, 0, 0};
        for (int what = 0; what < want.length; what++) {
            Desk.due("new: count(" + what + ")", x.count(what), want[what]);
        }
        Desk.due("new: count(10)", x.count(10), LooseEnds.HIDDEN);
        Desk.due("new: count(-1)", x.count(-1), LooseEnds.HIDDEN);
        for (int what = 0; what < 5; what++) {
            Desk.due("new: status", x.status(what), 0);
        }
        Desk.due("new: wakes(1) is so", x.wakes(1), false);
        Desk.due("new: thread", Desk.throwsNoSuch(x, 0, 0), true);
        Desk.due("new: seen", x.seen(0, 1, true), -1);
        Desk.due("new: most", x.most(3), -1);
    }

    private static void feeding() {
        LooseEnds x = new LooseEnds();
        Desk.due("feed nothing", x.feed(0, 0, 0, 0, 0), 0);
        Desk.due("feed leaves 0 out", x.feed(0x41004200, 0, 0x00000043, 0, 0x80000000), 4);
        Desk.due("feed all bits", x.feed(-1, -1, -1, -1, -1), 24);
        for (int i = 0; i < 10; i++) {
            x.feed(-1, -1, -1, -1, -1);
        }
        Desk.due("feed to 224", x.count(2), 224);
        Desk.due("feed to 244", x.feed(-1, -1, -1, -1, -1), -1);
        Desk.due("a refused feed brings nothing", x.count(2), 224);
        Desk.due("feed to 241", x.feed(-1, -1, -1, -1, 1), -1);
        Desk.due("feed to 240", x.feed(-1, -1, -1, -1, 0), 240);
        Desk.due("feed nothing at 240", x.feed(0, 0, 0, 0, 0), 240);
        Desk.due("feed one at 240", x.feed(0, 0, 1, 0, 0), -1);
        LooseEnds y = new LooseEnds();
        // the highest byte first: t ; t, then x
        y.feed(0x74003B00, 0x00000074, 0, 0, 0);
        Desk.due("the highest byte first", y.fault(0), -1);
        y.feed(0, 0, 0, 0, 'x');
        Desk.due("fed bytes come behind", y.fault(0), 3);
    }

    private static void cutting() {
        LooseEnds x = new LooseEnds();
        Desk.due("end(0) of nothing", x.end(0), true);
        Desk.due("end(1) of nothing", x.end(1), false);
        Desk.feed(x, "t;tx");
        Desk.due("end(5)", x.end(5), false);
        Desk.due("end(-1)", x.end(-1), false);
        Desk.due("refused ends cut nothing", x.count(2), 4);
        Desk.due("end(4)", x.end(4), true);
        Desk.due("end(4) keeps all", x.count(2), 4);
        Desk.due("end(3)", x.end(3), true);
        Desk.due("cut", x.count(2), 3);
        Desk.due("what is left is a MILL", x.fault(0), -1);
        Desk.due("what was cut is gone", x.end(4), false);
    }

    private static void millFault(String text, int want) {
        Desk.due("fault(0) of <" + text + ">", Desk.fault(0, text), want);
    }

    private static void millFaults() {
        String[] right = {"t;t", "t;t ", " t ; t", "tc05;t", "sk99;t;t", "se0f0g1k0;t;t", "se9f9g9k99;t;t", "t;s;t",
            "t;t;s", "tl1p1c0;tc20p6l20", "s;t;t;t;t;t;t;t", "t;t;t;t;t;t;t;s", "t c 1 ; t", "sk00;t;t", "tp06;t"};
        for (String text : right) {
            millFault(text, -1);
        }
        millFault("", 0);
        millFault("   ", 3);
        millFault("t", 1);
        millFault("t ", 2);
        millFault("t;", 2);
        millFault("t;t;", 4);
        millFault("t;t; ", 5);
        millFault("s;", 2);
        millFault("tc", 2);
        millFault("tc ", 3);
        millFault("tc1", 3);
        millFault("tc;t", 2);
        millFault("tp7", 2);
        millFault("tp7;t", 2);
        millFault("tp70", 3);
        millFault("tp701", 4);
        millFault("tc005", 4);
        millFault("tc2 1", 4);
        millFault("tc1 0", 4);
        millFault("tp0", 2);
        millFault("tp00", 3);
        millFault("tl21 ", 3);
        millFault("tl99", 3);
        millFault("tc21;t", 3);
        millFault("sg0;t;t", 2);
        millFault("sg00", 3);
        millFault("se10", 3);
        millFault("sf10", 3);
        millFault("sk100", 4);
        millFault("s;s", 2);
        millFault("t;t;s;s", 6);
        millFault("tc1c2", 3);
        millFault("tc1p2c", 5);
        millFault("se1f1e", 5);
        millFault("tk1", 1);
        millFault("sc1", 1);
        millFault("t\u00e9", 1);
        millFault("t;;t", 2);
        millFault(";t;t", 0);
        millFault("T;t", 0);
        millFault("t1", 1);
        millFault("t;t;t;t;t;t;t;t", 14);
        millFault("t;t;t;t;s;t;t;t;t", 16);
        millFault("tt", 1);
        millFault("t\t;t", 1);
    }

    private static void lawFault(String text, int want) {
        Desk.due("fault(1) of <" + text + ">", Desk.fault(1, text), want);
    }

    private static void lawFaults() {
        String[] right = {"y:1", "y:1234", " y : c ", "y:c;y:1", "y:c=1?2", "y:(c=1)?2", "y:!c=1?2", "y:!!!!!!c=1?1",
            "y:[[[[[[1]]]]]]", "y:!(!([[c]]=1))?1", "y:c=1&(c=2|p=1)?l", "y:c+p-l*e/n-t", "y:[c]=1?2", "y:[c+1]*2>3?1",
            "y:1=1|!(2<3)&p>l?0", "y:(((((([c]=1))))))?1".replace("[c]", "c"), "y:0000", "y:c = 1 ? 2 ; y : 3"};
        for (String text : right) {
            lawFault(text, -1);
        }
        lawFault("", 0);
        lawFault(" ", 1);
        lawFault("z", 0);
        lawFault("y", 1);
        lawFault("y;", 1);
        lawFault("y:", 2);
        lawFault("y:;", 2);
        lawFault("y:12345", 6);
        lawFault("y:00001", 6);
        lawFault("y:1 2", 4);
        lawFault("y:c;", 4);
        lawFault("y:c;c", 4);
        lawFault("y:c=1", 5);
        lawFault("y:c=1;", 5);
        lawFault("y:c=1?", 6);
        lawFault("y:c?2", 3);
        lawFault("y:c&", 3);
        lawFault("y:c|", 3);
        lawFault("y:c=1?2?3", 7);
        lawFault("y:c=1?c=2", 7);
        lawFault("y:c=1?!c=2", 6);
        lawFault("y:(c)", 4);
        lawFault("y:(c+1)=2?1", 6);
        lawFault("y:(c=1)", 7);
        lawFault("y:(c=1)+1", 7);
        lawFault("y:(c=1)=1", 7);
        lawFault("y:!c?1", 4);
        lawFault("y:!!!!!!!c=1?1", 8);
        lawFault("y:[[[[[[[1", 8);
        lawFault("y:!(!([[[", 8);
        lawFault("y:(((((((", 8);
        lawFault("y:!!!!!!c=[1]?1", 10);
        lawFault("y:!!!!!!c=1&[1]=1?[[[[[[1]]]]]]", -1);
        lawFault("y:c=1=2", 5);
        lawFault("y:c=<2", 4);
        lawFault("y:c=1|", 6);
        lawFault("y:c=1||", 6);
        lawFault("y:-1", 2);
        lawFault("y:c=[1", 6);
        lawFault("y:c)", 3);
        lawFault("y:c=1)", 5);
        lawFault("y:[c=1]?2", 4);
        lawFault("y:[(c=1)]", 3);
        lawFault("y:x", 2);
        lawFault("y:c+", 4);
        lawFault("y:c++", 4);
        lawFault("y:cp", 3);
        lawFault("y:1c", 3);
        lawFault("y:c1", 3);
        lawFault("y:f", 2);
        lawFault("y:c\u00a0", 3);
    }

    private static void faultSorts() {
        LooseEnds x = new LooseEnds();
        Desk.feed(x, "t;t");
        Desk.due("fault(2)", x.fault(2), -2);
        Desk.due("fault(-1)", x.fault(-1), -2);
        Desk.due("a MILL is no LAW", x.fault(1), 0);
        Desk.due("fault changes nothing", x.count(2), 3);
    }

    private static void tellingMills() {
        LooseEnds x = new LooseEnds();
        Desk.due("text(0) of nothing", x.text(0), -1);
        Desk.feed(x, "t;tc3");
        Desk.due("text(2)", x.text(2), -1);
        Desk.due("text(-1)", x.text(-1), -1);
        Desk.due("refused texts leave the TAPE", x.count(2), 5);
        Desk.due("text(0)", x.text(0), 2);
        Desk.due("the TAPE is empty then", x.count(2), 0);
        Desk.due("ENDS", x.count(0), 2);
        Desk.hold(x, "y:1");
        x.seen(0, 1, true);
        x.attempt(0, 1);
        x.days(3);
        x.image();
        x.attempt(9, 9);
        x.wakes(4);
        Desk.feed(x, "t;t;x");
        Desk.due("a FAULT", x.text(0), -1);
        Desk.due("the MILL stays", x.count(0), 2);
        Desk.due("its DAY stays", x.count(4), 3);
        x.end(3);
        x.feed(0x3B740000, 0, 0, 0, 0);
        Desk.due("another MILL", x.text(0), 3);
        int[] want = {3, 1, 0, 0, 0, 0, 4, 0, 0, 0};
        for (int what = 0; what < want.length; what++) {
            Desk.due("another MILL: count(" + what + ")", x.count(what), want[what]);
        }
        Desk.due("STATUS stays", x.status(0), 1);
        Desk.due("the IMAGE is gone", x.back(), -1);
        Desk.due("no ACT to be UNDONE", x.undo(), -1);
        Desk.due("no LOG", x.log(0, 0), -1);
        Desk.due("no KNOT", x.thread(0, 4), -1);
        Desk.due("COINS", x.rule(3), 20);
        Desk.due("none SOLD", x.most(4), 0);
    }

    private static void tellingLaws() {
        LooseEnds x = new LooseEnds();
        for (int i = 0; i < 4; i++) {
            Desk.feed(x, "y:" + i);
            Desk.due("LAW " + i, x.text(1), i);
            Desk.due("TAPE behind a LAW", x.count(2), 0);
        }
        Desk.due("no LAW holds by itself", x.count(3), -1);
        Desk.feed(x, "y:5");
        Desk.due("a fifth LAW", x.text(1), -1);
        Desk.due("the TAPE stays", x.count(2), 3);
        Desk.due("four LAWS", x.count(1), 4);
        Desk.due("a fifth has no FAULT", x.fault(1), -1);
        LooseEnds y = new LooseEnds();
        Desk.feed(y, "y:");
        Desk.due("a LAW with a FAULT", y.text(1), -1);
        Desk.due("no LAW", y.count(1), 0);
    }

    private static void rules() {
        LooseEnds x = Desk.mill("t;t");
        int[] plain = {2, 1, 4, 20, -1};
        for (int what = 0; what < plain.length; what++) {
            Desk.due("rule(" + what + ") without", x.rule(what), plain[what]);
        }
        Desk.due("rule(-1)", x.rule(-1), -1);
        LooseEnds y = Desk.mill("t;sk7g3f0e9;t");
        int[] told = {9, 0, 3, 7};
        for (int what = 0; what < told.length; what++) {
            Desk.due("rule(" + what + ") told", y.rule(what), told[what]);
        }
        y.give(5);
        Desk.due("COINS now", y.rule(3), 12);
    }

    private static void threads() {
        LooseEnds x = Desk.mill("tl20c0p6;t;tp1");
        int[][] want = {{0, 6, 20, 0, -1, -1}, {10, 2, 5, 0, -1, -1}, {10, 1, 5, 0, -1, -1}};
        for (int end = 0; end < 3; end++) {
            for (int what = 0; what < 6; what++) {
                Desk.due("thread(" + end + ", " + what + ")", x.thread(end, what), want[end][what]);
            }
        }
        int[][] wrong = {{3, 0}, {-1, 0}, {0, 6}, {0, -1}, {Integer.MAX_VALUE, 0}, {0, Integer.MIN_VALUE}, {7, 7}};
        for (int[] pair : wrong) {
            Desk.due("thread(" + pair[0] + ", " + pair[1] + ") throws", Desk.throwsNoSuch(x, pair[0], pair[1]), true);
        }
        x.attempt(1, 2);
        Desk.due("behind", x.thread(1, 4), 2);
        Desk.due("ahead", x.thread(2, 5), 1);
        x.sell(1);
        Desk.due("SOLD", x.thread(2, 3), 1);
        Desk.due("not SOLD", x.thread(0, 3), 0);
    }

    private static void holding() {
        LooseEnds x = Desk.mill("t;t");
        Desk.due("law(0) of none", x.law(0), false);
        Desk.due("law(NONE)", x.law(-1), true);
        Desk.due("law(-2)", x.law(-2), false);
        Desk.addLaw(x, "y:0");
        Desk.addLaw(x, "y:1");
        Desk.due("none holds: they go", x.fits(0, 1), 1);
        Desk.due("law(0)", x.law(0), true);
        Desk.due("which holds", x.count(3), 0);
        Desk.due("y:0", x.fits(0, 1), 0);
        Desk.due("law(0) again", x.law(0), true);
        Desk.due("law(2)", x.law(2), false);
        Desk.due("a wrong law changes nothing", x.count(3), 0);
        x.law(1);
        Desk.due("y:1", x.fits(0, 1), 1);
        x.law(0);
        Desk.due("law(NONE) again", x.law(-1), true);
        Desk.due("none holds again", x.fits(0, 1), 1);
        Desk.due("which holds: none", x.count(3), -1);
    }

    /** What fits(0, 1) answers by a law, of two ENDS whose COLOURS are 3 apart, PLIES 4, LENGTH 12 together. */
    private static void by(String law, int want) {
        LooseEnds x = Desk.mill("se7;tc3p1l5;tp5c6l7");
        Desk.hold(x, law);
        Desk.due("fits by " + law, x.fits(0, 1), want);
    }

    private static void reckoning() {
        by("y:1", 1);
        by("y:0", 0);
        by("y:0-1", 0);
        by("y:1+2*0", 1);
        by("y:10-3-8", 0);
        by("y:10-3-6", 1);
        by("y:100/10/10", 1);
        by("y:100/10*10-99", 1);
        by("y:[10-3]-[8-2]", 1);
        by("y:10-[3-8]-14", 1);
        by("y:7/0", 0);
        by("y:7/0+1", 1);
        by("y:[0-7]/2+4", 1);
        by("y:[0-7]/2+3", 0);
        by("y:9999*9999/9999-100", 0);
        by("y:9999*9999/9999-99", 1);
        by("y:9999*9999-9999*100-99", 1);
        by("y:9999*9999-9999*100-100", 0);
        by("y:0-9999*9999+9999*101", 0);
        by("y:0-9999*9999-9999*9999+9999*100+101", 1);
        by("y:0-9999*9999-9999*9999+9999*100+100", 0);
        by("y:0009", 1);
        // as long as the TAPE can be
        by("y:" + "1-".repeat(59) + "0" + "+0".repeat(58) + "+5", 0);
        by("y:59" + "-1".repeat(59) + "+0".repeat(58) + "+1", 1);
        by("y:59" + "-1".repeat(59) + "+0".repeat(59), 0);
        by(" ".repeat(237) + "y:1", 1);
    }

    private static void conditions() {
        by("y:1=2?1", 0);
        by("y:1=1?1", 1);
        by("y:1=1?0;y:1", 0);
        by("y:1=2?0;y:1", 1);
        by("y:1<2?1", 1);
        by("y:2<1?1", 0);
        by("y:1<1?1", 0);
        by("y:2>1?1", 1);
        by("y:1>1?1", 0);
        by("y:1=1|1=2&1=2?1", 1);
        by("y:(1=1|1=2)&1=2?1", 0);
        by("y:!1=2&1=2?1;y:0", 0);
        by("y:!(1=2&1=2)?1;y:0", 1);
        by("y:!!1=1?1", 1);
        by("y:!!1=2?1", 0);
        by("y:1=2|1=2|1=1?1", 1);
        by("y:1=1&1=1&1=2?1", 0);
        by("y:1=2?5;y:1=3?5;y:1=1?5", 1);
        by("y:1=2?5;y:1=3?5;y:1=4?5", 0);
        by("y:0;y:1", 0);
        by("y:1;y:0", 1);
    }

    private static void letters() {
        by("y:c-2", 1);
        by("y:c-3", 0);
        by("y:p-3", 1);
        by("y:p-4", 0);
        by("y:l-11", 1);
        by("y:l-12", 0);
        by("y:e-6", 1);
        by("y:e-7", 0);
        by("y:n", 1);
        by("y:n-1", 0);
        by("y:t", 0);
        by("y:t+1", 1);
        LooseEnds x = Desk.mill("t;t;t;t");
        Desk.hold(x, "y:n=2?1");
        Desk.hold(x, "y:t-2");
        Desk.due("DAY 0", x.fits(0, 1), 0);
        x.days(3);
        Desk.due("DAY 3", x.fits(0, 1), 1);
        x.attempt(0, 1);
        x.law(0);
        Desk.due("n of the first of two", x.fits(0, 2), 1);
        Desk.due("n of the last of two", x.fits(1, 2), 1);
        Desk.due("n of a single one", x.fits(2, 0), 0);
    }
}
