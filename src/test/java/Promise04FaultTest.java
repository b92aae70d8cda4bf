/** Promise 4: fault, and what paragraph 1 of the Terms says of MILLS, LAWS and FAULTS. */
public final class Promise04FaultTest extends Cases {
    public static void main(String[] args) {
        run(Promise04FaultTest.class);
    }

    private static void mills(String text, int want) {
        due("fault(0) of <" + text + ">", Desk.fault(0, text), want);
    }

    private static void laws(String text, int want) {
        due("fault(1) of <" + text + ">", Desk.fault(1, text), want);
    }

    // ---- sorts

    static void noSuchSort() {
        int[] wrong = {-1, 2, -2, LEAST, MOST};
        for (int sort : wrong) {
            refused(Cases::busy, x -> x.fault(sort), -2, NO_STATUS);
            due("of an empty TAPE", new LooseEnds().fault(sort), -2);
        }
    }

    static void aFaultChangesNothing() {
        refused(Cases::busy, x -> x.fault(0), 3, NO_STATUS);
        refused(Cases::busy, x -> x.fault(1), 0, NO_STATUS);
    }

    static void anEmptyTape() {
        mills("", 0);
        laws("", 0);
    }

    static void nothingButBlanks() {
        mills(" ", 1);
        laws(" ", 1);
        mills(" ".repeat(240), 240);
        laws(" ".repeat(240), 240);
    }

    static void aMillIsNoLawAndALawNoMill() {
        laws("t;t", 0);
        mills("y:1", 0);
    }

    // ---- a MILL: CLAUSES

    static void fewerThanTwoEnds() {
        mills("t", 1);
        mills("s", 1);
        mills("s;t", 3);
        mills("t;s", 3);
        mills("t   ", 4);
        mills("tc1p1l1", 7);
    }

    static void twoEnds() {
        mills("t;t", NONE);
        mills("s;t;t", NONE);
        mills("t;s;t", NONE);
        mills("t;t;s", NONE);
    }

    static void sevenEnds() {
        mills("t;t;t;t;t;t;t", NONE);
        mills("s;t;t;t;t;t;t;t", NONE);
        mills("t;t;t;t;t;t;t;s", NONE);
    }

    static void anEighthEnd() {
        mills("t;t;t;t;t;t;t;t", 14);
        mills("t;t;t;t;t;t;t;t;t", 14);
        mills("s;t;t;t;t;t;t;t;t", 16);
        mills("t;t;t;t;t;t;t;s;t", 16);
    }

    static void noS() {
        mills("tc1;tc2", NONE);
    }

    static void aSecondS() {
        mills("s;s", 2);
        mills("s;t;t;s", 6);
        mills("t;t;s;s", 6);
        mills("t;t;se1;t;s", 10);
    }

    static void itEndsBehindASemicolon() {
        mills(";", 0);
        mills("t;", 2);
        mills("t;t;", 4);
        mills("t;t; ", 5);
        mills("t;;t", 2);
    }

    static void aSignThatIsNoClause() {
        mills("u;t", 0);
        mills("T;t", 0);
        mills("t;c1", 2);
        mills("t;t;y", 4);
    }

    static void noSemicolonBetween() {
        mills("tt", 1);
        mills("t t", 2);
        mills("st;t", 1);
        mills("t:t", 1);
        mills("t,t", 1);
    }

    static void eachPrefixEndsTooEarly() {
        String text = "s;tc1;t;tp2";
        int[] want = {0, 1, 2, 3, 4, 5, 6, NONE, 8, NONE, 10, NONE};
        for (int length = 0; length <= text.length(); length++) {
            mills(text.substring(0, length), want[length]);
        }
    }

    // ---- a MILL: ITEMS

    static void lettersOfS() {
        mills("se1f1g1k1;t;t", NONE);
        mills("sk1g1f1e1;t;t", NONE);
        mills("sc1;t;t", 1);
        mills("sp1;t;t", 1);
        mills("sl1;t;t", 1);
        mills("s1;t;t", 1);
    }

    static void lettersOfT() {
        mills("tc1p1l1;t", NONE);
        mills("tl1p1c1;t", NONE);
        mills("te1;t", 1);
        mills("tf1;t", 1);
        mills("tg1;t", 1);
        mills("tk1;t", 1);
        mills("tn1;t", 1);
    }

    static void aLetterThatWasThere() {
        mills("se1e1;t;t", 3);
        mills("sf1e1f1;t;t", 5);
        mills("sg1g;t;t", 3);
        mills("sk1k1;t;t", 3);
        mills("tc1c1;t", 3);
        mills("tp1l1p1;t", 5);
        mills("tl1l", 3);
        mills("tc1c99", 3);
    }

    static void theSameLetterInAnotherClause() {
        mills("tc1;tc1;tc1", NONE);
        mills("tp1l2;tl2p1", NONE);
    }

    static void aNumberIsMissing() {
        mills("tc", 2);
        mills("tc;t", 2);
        mills("tcp1;t", 2);
        mills("tc ", 3);
        mills("se;t;t", 2);
        mills("tc-1", 2);
        mills("tc+1", 2);
    }

    static void lets0To9Pass() {
        mills("se0;t;t", NONE);
        mills("se9;t;t", NONE);
        mills("se10;t;t", 3);
        mills("se00;t;t", NONE);
        mills("se09;t;t", NONE);
    }

    static void fadesBy0To9() {
        mills("sf0;t;t", NONE);
        mills("sf9;t;t", NONE);
        mills("sf10;t;t", 3);
    }

    static void oneToNineGirls() {
        mills("sg0;t;t", 2);
        mills("sg00;t;t", 3);
        mills("sg1;t;t", NONE);
        mills("sg01;t;t", NONE);
        mills("sg9;t;t", NONE);
        mills("sg10;t;t", 3);
    }

    static void coins0To99() {
        mills("sk0;t;t", NONE);
        mills("sk99;t;t", NONE);
        mills("sk100;t;t", 4);
    }

    static void colours0To20() {
        mills("tc0;t", NONE);
        mills("tc20;t", NONE);
        mills("tc21;t", 3);
        mills("tc99;t", 3);
    }

    static void plies1To6() {
        mills("tp0;t", 2);
        mills("tp00;t", 3);
        mills("tp1;t", NONE);
        mills("tp6;t", NONE);
        mills("tp06;t", NONE);
        mills("tp7;t", 2);
        mills("tp07;t", 3);
        mills("tp10;t", 3);
    }

    static void lengths1To20() {
        mills("tl0;t", 2);
        mills("tl1;t", NONE);
        mills("tl20;t", NONE);
        mills("tl21;t", 3);
        mills("tl00;t", 3);
    }

    static void outOfBoundsAtTheLastDigitWhateverFollows() {
        mills("tp7", 2);
        mills("tp7 ", 2);
        mills("tp7x", 2);
        mills("tp7p1", 2);
        mills("tp7;", 2);
        mills("tl 21 x", 4);
        mills("t;t;tc99 c1", 7);
    }

    static void aThirdDigitWhateverStandsAhead() {
        mills("tc100", 4);
        mills("tc000", 4);
        mills("tp701", 4);
        mills("tc999", 4);
        mills("tl0011", 4);
        mills("sk0001;t;t", 4);
    }

    static void blanksBetweenAllSigns() {
        mills(" s e 9 f 9 g 9 k 99 ; t c 20 p 6 l 20 ; t ", NONE);
        mills("  t  ;  t  ", NONE);
    }

    static void noBlankWithinNumbers() {
        mills("tc1 0;t", 4);
        mills("sk9 9;t;t", 4);
        mills("tc2 1;t", 4);
    }

    static void otherSignsAreNoBlanks() {
        int[] others = {9, 10, 13, 31, 33, 127, 128, 160, 255};
        for (int other : others) {
            mills("t" + (char) other + ";t", 1);
            laws("y" + (char) other + ":1", 1);
        }
    }

    static void aMillAsLongAsTheTape() {
        mills("t;t" + " ".repeat(237), NONE);
        mills(" ".repeat(237) + "t;t", NONE);
        mills(" ".repeat(238) + "t;", 240);
        mills("t;t" + " ".repeat(236) + "x", 239);
    }

    // ---- a LAW: CLAUSES

    static void oneClauseAtLeast() {
        laws("y:1", NONE);
        laws("y:1;y:2", NONE);
        laws(";", 0);
        laws("y:1;", 4);
        laws("y:1;;y:2", 4);
        laws(";y:1", 0);
    }

    static void aClauseBeginsWithYAndAColon() {
        laws("y", 1);
        laws("y1", 1);
        laws(":1", 0);
        laws("yy:1", 1);
        laws("y::1", 2);
        laws("y:", 2);
        laws("Y:1", 0);
        laws("y:1y:1", 3);
        laws("y:1;1", 4);
    }

    static void asManyClausesAsTheTapeHolds() {
        laws("y:1;".repeat(59) + "y:1", NONE);
        laws("y:1;".repeat(60), 240);
    }

    static void eachPrefixOfALawEndsTooEarly() {
        String text = "y:(c=1|!p<2)&[l+34]*2>e/1?n-t;y:7";
        String right = "y:(c=1|!p<2)&[l+34]*2>e/1?n";
        for (int length = 0; length <= text.length(); length++) {
            boolean whole = length == right.length() || length == right.length() + 2 || length == text.length();
            laws(text.substring(0, length), whole ? NONE : length);
        }
    }

    // ---- a LAW: CONDITIONS

    static void noCondition() {
        laws("y:c", NONE);
        laws("y:?1", 2);
    }

    static void aSumIsNoCondition() {
        laws("y:c?1", 3);
        laws("y:[c]?1", 5);
        laws("y:!c?1", 4);
        laws("y:(c)?1", 4);
        laws("y:c&1=1?1", 3);
        laws("y:c|1=1?1", 3);
    }

    static void aConditionIsNoSum() {
        laws("y:c=1", 5);
        laws("y:c=1;y:1", 5);
        laws("y:(c=1)", 7);
        laws("y:!c=1", 6);
        laws("y:[c=1]?1", 4);
        laws("y:1=1?c=1", 7);
        laws("y:1=1?(1)", 6);
        laws("y:1=1?!1", 6);
    }

    static void whatGoesOnWithABracketOrNotHasACondition() {
        laws("y:(1)", 4);
        laws("y:(1+1)*2=4?1", 6);
        laws("y:(1=1)+1", 7);
        laws("y:!1", 4);
        laws("y:!1=1?1", NONE);
        laws("y:(1=1)?1", NONE);
    }

    static void oneSignOfThree() {
        laws("y:1=1?1", NONE);
        laws("y:1<1?1", NONE);
        laws("y:1>1?1", NONE);
        laws("y:1==1?1", 4);
        laws("y:1<=1?1", 4);
        laws("y:1<1<1?1", 5);
        laws("y:=1?1", 2);
        laws("y:1=?1", 4);
    }

    static void oneQuestionAtMost() {
        laws("y:1=1?", 6);
        laws("y:1=1??1", 6);
        laws("y:1=1?1?1", 7);
    }

    static void truthsAndUnits() {
        laws("y:1=1&1=1|1=1&1=1?1", NONE);
        laws("y:1=1&?1", 6);
        laws("y:1=1|?1", 6);
        laws("y:&1=1?1", 2);
        laws("y:1=1&&1=1?1", 6);
        laws("y:1=1|&1=1?1", 6);
        laws("y:(1=1|1=1?1", 10);
        laws("y:1=1)?1", 5);
        laws("y:()?1", 3);
    }

    // ---- a LAW: SUMS

    static void oneToFourDigits() {
        laws("y:0", NONE);
        laws("y:9999", NONE);
        laws("y:0000", NONE);
        laws("y:10000", 6);
        laws("y:00000", 6);
        laws("y:99999999", 6);
        laws("y:1+12345", 8);
        laws("y:1=12345", 8);
        laws("y:12 34", 5);
        laws("y:1 2", 4);
    }

    static void sixLetters() {
        laws("y:c+p+l+e+n+t", NONE);
        String others = "abdfghijkmoqrsuvwxyzCPLENT";
        for (int i = 0; i < others.length(); i++) {
            laws("y:" + others.charAt(i), 2);
        }
        laws("y:cp", 3);
        laws("y:c1", 3);
        laws("y:1c", 3);
    }

    static void termsAndAtoms() {
        laws("y:1+2-3*4/5", NONE);
        laws("y:+1", 2);
        laws("y:-1", 2);
        laws("y:*1", 2);
        laws("y:1+", 4);
        laws("y:1*", 4);
        laws("y:1+*1", 4);
        laws("y:1+-1", 4);
        laws("y:1%1", 3);
        laws("y:[]", 3);
        laws("y:[1", 4);
        laws("y:1]", 3);
        laws("y:[1)", 4);
    }

    static void blanksInALaw() {
        laws(" y : ( c = 1 | ! p < 2 ) & [ l + 34 ] > e ? n ; y : 7 ", NONE);
    }

    static void sixWithinOneAnother() {
        laws("y:[[[[[[1]]]]]]", NONE);
        laws("y:((((((1=1))))))?1", NONE);
        laws("y:!!!!!!1=1?1", NONE);
        laws("y:(!(!([1]=1)))?1", NONE);
        laws("y:!(!(1=[[1]]))?1", NONE);
    }

    static void aSeventhWithin() {
        laws("y:[[[[[[[1]]]]]]]", 8);
        laws("y:(((((((1=1)))))))?1", 8);
        laws("y:!!!!!!!1=1?1", 8);
        laws("y:(!(!([[1]]=1)))?1", 8);
        laws("y:!(!(1=[[[1]]]))?1", 10);
        laws("y:((((((!1=1))))))?1", 8);
        laws("y:!!!!!!(1=1)?1", 8);
        laws("y:!!!!!![1]=1?1", 8);
        laws("y:!!!!!!1=[1]?1", 10);
        laws("y:1=1?[[[[[[[1]]]]]]]", 12);
        laws("y:1;y:[[[[[[[1]]]]]]]", 12);
        laws("y:1=1|(((((((1=1)))))))?1", 12);
        laws("y:1=1&!!!!!!!1=1?1", 12);
        laws("y:1=[[[[[[[1]]]]]]]?1", 10);
        laws("y:[[[[[[1+[", 10);
        laws("y:[[[[[[1*[", 10);
    }

    static void sevenSideBySide() {
        laws("y:[1]+[1]+[1]+[1]+[1]+[1]+[1]", NONE);
        laws("y:(1=1)&(1=1)&(1=1)&(1=1)&(1=1)&(1=1)&(1=1)?1", NONE);
        laws("y:!1=1&!1=1|!1=1|!1=1|!1=1|!1=1|!1=1?1", NONE);
        laws("y:!!!!!!1=1&[1]=1?1", NONE);
    }

    static void sixOnceMoreElsewhere() {
        laws("y:[[[[[[1]]]]]]=[[[[[[1]]]]]]?1", NONE);
        laws("y:((((((1=1))))))?[[[[[[1]]]]]]", NONE);
        laws("y:[[[[[[1]]]]]];y:[[[[[[1]]]]]]", NONE);
        laws("y:[[[[[[1]]]]]]+[[[[[[1]]]]]]*[[[[[[1]]]]]]", NONE);
    }

    static void aLawAsLongAsTheTape() {
        laws("y:" + "1+".repeat(118) + "12", NONE);
        laws("y:" + "1+".repeat(119), 240);
        laws("y:" + "!!!!!!".repeat(39) + "1=1?", 8);
        laws(" ".repeat(237) + "y:1", NONE);
        laws(" ".repeat(238) + "y:", 240);
    }
}
