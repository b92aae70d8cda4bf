import java.util.ArrayDeque;
import java.util.ArrayList;
import java.util.Deque;
import java.util.LinkedHashSet;
import java.util.List;
import java.util.Set;

/**
 * FAULT of a LAW found another way: all that may still come is kept as a set of
 * stacks, and each sign leaves those over that can go on with it. Upper-case
 * letters are what a stack has yet to open, a digit behind one its depth.
 */
final class Grammar {
    private Grammar() {
    }

    static int lawFault(String text) {
        Set<String> open = new LinkedHashSet<>();
        open.add("C0L0");
        for (int i = 0; i < text.length(); i++) {
            open = after(open, text.charAt(i));
            if (open.isEmpty()) {
                return i;
            }
        }
        for (String stack : spread(open)) {
            if (stack.isEmpty()) {
                return -1;
            }
        }
        return text.length();
    }

    private static Set<String> after(Set<String> open, char sign) {
        Set<String> next = new LinkedHashSet<>();
        for (String stack : spread(open)) {
            if (sign == ' ') {
                // a number that has begun does not go on behind a blank
                if (!stack.startsWith("#") || stack.startsWith("#4")) {
                    next.add(stack);
                }
            } else if (!stack.isEmpty()) {
                String rest = stack.substring(1);
                if (stack.charAt(0) == '#') {
                    if (sign >= '0' && sign <= '9') {
                        int left = rest.charAt(0) - '0';
                        String more = left > 1 ? "N" + (left - 1) : "";
                        next.add(more + rest.substring(1));
                    }
                } else if (stack.charAt(0) == '$') {
                    if ("cplent".indexOf(sign) >= 0) {
                        next.add(rest);
                    }
                } else if (stack.charAt(0) == sign) {
                    next.add(rest);
                }
            }
        }
        return next;
    }

    /** All stacks whose top is a sign to come, or that are empty. */
    private static Set<String> spread(Set<String> open) {
        Set<String> done = new LinkedHashSet<>();
        Deque<String> todo = new ArrayDeque<>(open);
        Set<String> had = new LinkedHashSet<>(open);
        while (!todo.isEmpty()) {
            String stack = todo.pop();
            if (stack.isEmpty() || !Character.isUpperCase(stack.charAt(0))) {
                done.add(stack);
                continue;
            }
            for (String way : ways(stack.charAt(0), stack.charAt(1) - '0')) {
                String longer = way + stack.substring(2);
                if (had.add(longer)) {
                    todo.push(longer);
                }
            }
        }
        return done;
    }

    /** C clause, L more clauses, K condition, I more of it, T truth, J more of it, U unit, S sum, P more, M term, Q more, A atom. */
    private static List<String> ways(char what, int d) {
        List<String> ways = new ArrayList<>();
        String in = String.valueOf(d + 1);
        switch (what) {
            case 'C': ways.add("y:S0"); ways.add("y:K0?S0"); break;
            case 'L': ways.add(""); ways.add(";C0L0"); break;
            case 'K': ways.add("T" + d + "I" + d); break;
            case 'I': ways.add(""); ways.add("|T" + d + "I" + d); break;
            case 'T': ways.add("U" + d + "J" + d); break;
            case 'J': ways.add(""); ways.add("&U" + d + "J" + d); break;
            case 'U':
                for (String sign : new String[] {"=", "<", ">"}) {
                    ways.add("S" + d + sign + "S" + d);
                }
                if (d < 6) {
                    ways.add("!U" + in);
                    ways.add("(K" + in + ")");
                }
                break;
            case 'S': ways.add("M" + d + "P" + d); break;
            case 'P': ways.add(""); ways.add("+M" + d + "P" + d); ways.add("-M" + d + "P" + d); break;
            case 'M': ways.add("A" + d + "Q" + d); break;
            case 'Q': ways.add(""); ways.add("*A" + d + "Q" + d); ways.add("/A" + d + "Q" + d); break;
            case 'A':
                ways.add("$");
                ways.add("#4");
                if (d < 6) {
                    ways.add("[S" + in + "]");
                }
                break;
            case 'N': ways.add(""); ways.add("#" + d); break;
            default: throw new IllegalStateException("no such: " + what);
        }
        return ways;
    }
}
