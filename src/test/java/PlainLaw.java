import java.util.ArrayDeque;
import java.util.ArrayList;
import java.util.Deque;
import java.util.List;
import java.util.Map;

/** A law read in another way than the class does: words by words, with a row of what is open, and no recursion. */
final class PlainLaw {
    private record Word(String text, int place, boolean isStuck) {
    }

    private static final String[] HEADS = {"stands", "notice", "life"};
    private static final String LEVELS = "||&&<=>+-*/";

    /** The place of the fault; -1, if there is none. */
    final int fault;
    int operands;
    private final List<List<String>> expressions = new ArrayList<>();

    PlainLaw(String text) {
        fault = faultOf(words(text), text.length());
    }

    private static List<Word> words(String text) {
        List<Word> words = new ArrayList<>();
        int i = 0;
        while (i < text.length()) {
            String run = runAt(text, i);
            boolean isRow = isRow(run.charAt(0));
            boolean isStuck = isRow && i > 0 && isRow(text.charAt(i - 1));
            if (!run.equals(" ")) {
                words.add(new Word(run, i, isStuck));
            }
            i += run.length();
        }
        return words;
    }

    private static boolean isRow(char c) {
        return c >= 'a' && c <= 'z' || c >= '0' && c <= '9';
    }

    private static String runAt(String text, int from) {
        String rest = text.substring(from);
        String letters = rest.replaceFirst("(?s)[^a-z].*", "");
        String digits = rest.replaceFirst("(?s)[^0-9].*", "");
        String run = letters.isEmpty() ? digits : letters;
        return run.isEmpty() ? rest.substring(0, 1) : run;
    }

    private int faultOf(List<Word> words, int length) {
        int section = -1;
        boolean wantsOperand = false;
        Deque<Character> open = new ArrayDeque<>();
        Deque<Boolean> tested = new ArrayDeque<>();
        for (Word word : words) {
            String w = word.text();
            if (word.isStuck()) {
                return word.place();
            }
            if (section < 0 || !wantsOperand && open.isEmpty() && section < 2 && w.equals(HEADS[section + 1])) {
                if (!w.equals(HEADS[section + 1])) {
                    return word.place();
                }
                section++;
                expressions.add(new ArrayList<>());
                wantsOperand = true;
                tested.clear();
                tested.push(false);
                continue;
            }
            if (wantsOperand) {
                if (w.equals("!") || w.equals("(")) {
                    char c = w.charAt(0);
                    if (open.stream().filter(o -> o == c).count() >= 8) {
                        return word.place();
                    }
                    open.push(c);
                    if (c == '(') {
                        tested.push(false);
                    }
                } else if (isOperand(w, section)) {
                    operands++;
                    wantsOperand = false;
                    dropBangs(open);
                } else {
                    return word.place();
                }
            } else if (w.equals(")") && !open.isEmpty()) {
                open.pop();
                tested.pop();
                dropBangs(open);
            } else if (w.length() == 1 && LEVELS.contains(w)) {
                if ("<=>".contains(w)) {
                    if (tested.pop()) {
                        return word.place();
                    }
                    tested.push(true);
                } else if ("&|".contains(w)) {
                    tested.pop();
                    tested.push(false);
                }
                wantsOperand = true;
            } else {
                return word.place();
            }
            expressions.get(section).add(w);
        }
        return section == 2 && !wantsOperand && open.isEmpty() ? -1 : length;
    }

    private static void dropBangs(Deque<Character> open) {
        while (!open.isEmpty() && open.peek() == '!') {
            open.pop();
        }
    }

    private static boolean isOperand(String w, int section) {
        if (w.matches("[0-9]{1,4}")) {
            return true;
        }
        return w.matches(section == 1 ? "[epmxbrynvdalc]" : "[epmxbrynvd]");
    }

    int value(int section, Map<Character, Integer> names) {
        Deque<Integer> values = new ArrayDeque<>();
        Deque<Character> signs = new ArrayDeque<>();
        for (String w : expressions.get(section)) {
            char c = w.charAt(0);
            if (c >= '0' && c <= '9') {
                values.push(Integer.parseInt(w));
            } else if (c >= 'a' && c <= 'z') {
                values.push(names.get(c));
            } else if (c == '!' || c == '(') {
                signs.push(c);
                continue;
            } else if (c == ')') {
                while (signs.peek() != '(') {
                    apply(signs.pop(), values);
                }
                signs.pop();
            } else {
                while (!signs.isEmpty() && signs.peek() != '(' && level(signs.peek()) >= level(c)) {
                    apply(signs.pop(), values);
                }
                signs.push(c);
                continue;
            }
            while (!signs.isEmpty() && signs.peek() == '!') {
                apply(signs.pop(), values);
            }
        }
        while (!signs.isEmpty()) {
            apply(signs.pop(), values);
        }
        return values.pop();
    }

    private static int level(char sign) {
        return "| & < + *".indexOf("=>".indexOf(sign) >= 0 ? '<' : sign == '-' ? '+' : sign == '/' ? '*' : sign);
    }

    private static void apply(char sign, Deque<Integer> values) {
        int b = values.pop();
        if (sign == '!') {
            values.push(b == 0 ? 1 : 0);
            return;
        }
        long a = values.pop();
        values.push(switch (sign) {
            case '|' -> (a != 0) | (b != 0) ? 1 : 0;
            case '&' -> (a != 0) & (b != 0) ? 1 : 0;
            case '<' -> a < b ? 1 : 0;
            case '=' -> a == b ? 1 : 0;
            case '>' -> a > b ? 1 : 0;
            case '+' -> (int) (a + b);
            case '-' -> (int) (a - b);
            case '*' -> (int) (a * b);
            default -> b == 0 ? 0 : (int) (a / b);
        });
    }
}
