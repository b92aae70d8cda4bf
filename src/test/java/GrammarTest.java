import java.util.Random;

/** Promise 4: FAULTS of random LAWS, and of MILLS by a plain second reading of them. */
public final class GrammarTest {
    private static final String SIGNS = "yy:::cplent0123456789++--**//==<<>>&|!([)]?; ";

    public static void main(String[] args) {
        Random random = new Random(7);
        for (int i = 0; i < 6000; i++) {
            String law = spoil(random, Texts.law(random), SIGNS);
            Desk.due("fault(1) of <" + law + ">", Desk.fault(1, law), Grammar.lawFault(law));
        }
        for (int i = 0; i < 20000; i++) {
            String mill = spoil(random, Texts.mill(random), "sstt;;efgkcpl0123456789 ");
            Desk.due("fault(0) of <" + mill + ">", Desk.fault(0, mill), millFault(mill));
        }
        Desk.finish("GrammarTest");
    }

    private static String spoil(Random random, String text, String signs) {
        StringBuilder spoilt = new StringBuilder(text);
        int changes = random.nextInt(4);
        for (int k = 0; k < changes && spoilt.length() > 0; k++) {
            int at = random.nextInt(spoilt.length());
            char sign = signs.charAt(random.nextInt(signs.length()));
            int way = random.nextInt(4);
            if (way == 0) {
                spoilt.setCharAt(at, sign);
            } else if (way == 1) {
                spoilt.insert(at, sign);
            } else if (way == 2) {
                spoilt.deleteCharAt(at);
            } else {
                spoilt.setLength(at);
            }
        }
        return spoilt.length() > 240 ? spoilt.substring(0, 240) : spoilt.toString();
    }

    /** By a table of states; a number is judged when the first sign behind it comes. */
    private static int millFault(String text) {
        String letters = "";
        String had = "";
        char state = ';';
        int ends = 0;
        boolean ruled = false;
        int digits = 0;
        int value = 0;
        char item = ' ';
        for (int i = 0; i <= text.length(); i++) {
            char sign = i < text.length() ? text.charAt(i) : '$';
            if (state == '0') {
                if (Character.isDigit(sign)) {
                    digits++;
                    value = value * 10 + sign - '0';
                    if (digits == 3) {
                        return i;
                    }
                    continue;
                }
                if (!isWithin(item, value)) {
                    return i - 1;
                }
                state = 'i';
            }
            if (sign == ' ') {
                continue;
            }
            if (state == ';') {
                if (sign == 's' && !ruled) {
                    ruled = true;
                    letters = "efgk";
                } else if (sign == 't' && ends < 7) {
                    ends++;
                    letters = "cpl";
                } else {
                    return i;
                }
                had = "";
                state = 'i';
            } else if (state == 'l') {
                if (!Character.isDigit(sign)) {
                    return i;
                }
                digits = 1;
                value = sign - '0';
                state = '0';
            } else if (sign == ';') {
                state = ';';
            } else if (sign == '$') {
                return ends < 2 ? i : -1;
            } else if (letters.indexOf(sign) >= 0 && had.indexOf(sign) < 0) {
                had += sign;
                item = sign;
                state = 'l';
            } else {
                return i;
            }
        }
        return text.length();
    }

    private static boolean isWithin(char item, int value) {
        switch (item) {
            case 'e': case 'f': return value <= 9;
            case 'g': return value >= 1 && value <= 9;
            case 'k': return value <= 99;
            case 'c': return value <= 20;
            case 'p': return value >= 1 && value <= 6;
            default: return value >= 1 && value <= 20;
        }
    }
}
