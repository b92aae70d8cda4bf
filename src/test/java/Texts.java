import java.util.ArrayList;
import java.util.Collections;
import java.util.List;
import java.util.Random;

/** Random MILLS and LAWS without a FAULT. */
final class Texts {
    private Texts() {
    }

    private static String blank(Random random) {
        return random.nextInt(12) == 0 ? " " : "";
    }

    private static String items(Random random, String letters, int[] least, int[] most) {
        List<String> items = new ArrayList<>();
        for (int i = 0; i < letters.length(); i++) {
            if (random.nextInt(4) > 0) {
                int value = least[i] + random.nextInt(most[i] - least[i] + 1);
                String digits = value < 10 && random.nextInt(9) == 0 ? "0" + value : String.valueOf(value);
                items.add(blank(random) + letters.charAt(i) + blank(random) + digits);
            }
        }
        Collections.shuffle(items, random);
        return String.join("", items);
    }

    static String mill(Random random) {
        List<String> clauses = new ArrayList<>();
        int ends = 2 + random.nextInt(6);
        // COLOURS and PLIES near one another in half of the MILLS, so that TALES come about
        boolean near = random.nextBoolean();
        int colour = random.nextInt(15);
        for (int i = 0; i < ends; i++) {
            int[] least = {near ? colour : 0, near ? 2 : 1, 1};
            int[] most = {near ? colour + 5 : 20, near ? 3 : 6, random.nextBoolean() ? 6 : 20};
            clauses.add("t" + items(random, "cpl", least, most));
        }
        if (random.nextInt(5) > 0) {
            clauses.add("s" + items(random, "efgk", new int[] {0, 0, 1, 0}, new int[] {9, 4, 9, 99}));
        }
        Collections.shuffle(clauses, random);
        String text = blank(random) + String.join(blank(random) + ";" + blank(random), clauses) + blank(random);
        return text.length() > 240 ? mill(random) : text;
    }

    static String law(Random random) {
        StringBuilder text = new StringBuilder();
        int clauses = 1 + random.nextInt(3);
        for (int i = 0; i < clauses; i++) {
            text.append(i > 0 ? ";" : "").append(blank(random)).append("y").append(blank(random)).append(":");
            if (random.nextInt(3) > 0) {
                text.append(condition(random, 0, 3)).append("?");
            }
            text.append(sum(random, 0, 3)).append(blank(random));
        }
        return text.length() > 240 ? law(random) : text.toString();
    }

    private static String condition(Random random, int depth, int size) {
        StringBuilder text = new StringBuilder(unit(random, depth, size));
        for (int k = 0; k < 3 && random.nextInt(3) == 0; k++) {
            text.append(blank(random)).append(random.nextBoolean() ? "|" : "&").append(unit(random, depth, size - 1));
        }
        return text.toString();
    }

    private static String unit(Random random, int depth, int size) {
        if (depth < 6 && size > 0 && random.nextInt(4) == 0) {
            return blank(random) + "!" + unit(random, depth + 1, size);
        }
        if (depth < 6 && size > 0 && random.nextInt(4) == 0) {
            return blank(random) + "(" + condition(random, depth + 1, size - 1) + blank(random) + ")";
        }
        return sum(random, depth, size - 1) + "=<>".charAt(random.nextInt(3)) + sum(random, depth, size - 1);
    }

    private static String sum(Random random, int depth, int size) {
        StringBuilder text = new StringBuilder(atom(random, depth, size));
        for (int k = 0; k < 4 && random.nextInt(2) == 0; k++) {
            text.append(blank(random)).append("+-*/+-".charAt(random.nextInt(6))).append(atom(random, depth, size - 1));
        }
        return text.toString();
    }

    private static String atom(Random random, int depth, int size) {
        int way = random.nextInt(8);
        if (way == 0 && depth < 6 && size > 0) {
            return blank(random) + "[" + sum(random, depth + 1, size) + blank(random) + "]";
        }
        if (way < 5) {
            return blank(random) + "cplentcn".charAt(random.nextInt(8));
        }
        return blank(random) + (way == 7 ? random.nextInt(10000) : random.nextInt(12));
    }
}
