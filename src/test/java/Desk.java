/** What all tests use: texts told to an object, answers compared with those that are due. */
final class Desk {
    private static int wrong = 0;
    private static int compared = 0;

    private Desk() {
    }

    static void due(String what, long got, long want) {
        compared++;
        if (got != want) {
            wrong++;
            if (wrong <= 50) {
                System.out.println(what + " answered " + got + ", due is " + want);
            }
        }
    }

    static void due(String what, boolean got, boolean want) {
        due(what, got ? 1 : 0, want ? 1 : 0);
    }

    static void finish(String name) {
        System.out.println(name + ": " + compared + " answers, " + wrong + " wrong");
        if (wrong != 0) {
            System.exit(1);
        }
    }

    static boolean isWrong() {
        return wrong > 0;
    }

    /** The five numbers of one feed that bring up to twenty signs of a text from a place on. */
    static int[] numbers(String text, int from) {
        int[] five = new int[5];
        for (int i = 0; i < 20 && from + i < text.length(); i++) {
            five[i / 4] |= (text.charAt(from + i) & 255) << (24 - 8 * (i % 4));
        }
        return five;
    }

    static int feed(LooseEnds x, String text) {
        int last = x.count(2);
        for (int from = 0; from < text.length(); from += 20) {
            int[] n = numbers(text, from);
            last = x.feed(n[0], n[1], n[2], n[3], n[4]);
        }
        return last;
    }

    static int fault(int sort, String text) {
        LooseEnds x = new LooseEnds();
        feed(x, text);
        return x.fault(sort);
    }

    static LooseEnds mill(String text) {
        LooseEnds x = new LooseEnds();
        tell(x, text);
        return x;
    }

    static void tell(LooseEnds x, String mill) {
        feed(x, mill);
        if (x.text(0) < 2) {
            throw new IllegalArgumentException("no such mill: " + mill);
        }
    }

    static int addLaw(LooseEnds x, String law) {
        feed(x, law);
        int number = x.text(1);
        if (number < 0) {
            throw new IllegalArgumentException("no such law: " + law);
        }
        return number;
    }

    /** Another law holds; where four are there, another object is wanted. */
    static void hold(LooseEnds x, String law) {
        x.law(addLaw(x, law));
    }

    static boolean throwsNoSuch(LooseEnds x, int end, int what) {
        try {
            x.thread(end, what);
            return false;
        } catch (java.util.NoSuchElementException e) {
            return true;
        }
    }
}
