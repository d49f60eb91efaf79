import java.util.ArrayList;
import java.util.List;
import java.util.Random;

/**
 * Promise 26, a fault by the document's own words: what stands ahead of it goes on to a law, and with the word or sign at
 * it nothing does. Only the class itself is asked, so that this holds whatever a model of it may have wrong.
 */
public final class FaultsTest {
    private static final int TEXTS = 6000;
    private static final int MOST = 108;
    private static final String[] OPERANDS = {"", " 1"};
    private static final String[] RESTS = {"", " life 1", " notice 1 life 1", " stands 1 notice 1 life 1"};

    private static final Checks c = new Checks();

    public static void main(String[] args) {
        Random random = new Random(26);
        int faults = 0;
        for (int i = 0; i < TEXTS; i++) {
            String text = LawTexts.some(random);
            int answer = lawOf(text);
            if (answer < 0) {
                faults += look(text, -100 - answer) ? 1 : 0;
            }
        }
        c.holds("too few faults: " + faults, faults > TEXTS / 10);
        c.end();
    }

    private static int lawOf(String text) {
        return Checks.lawOf(new StrikeBallots(), text);
    }

    /** Whether there was room to look. */
    private static boolean look(String text, int fault) {
        if (fault < 0 || fault > text.length()) {
            c.holds("the fault of \"" + text + "\" is at " + fault, false);
            return true;
        }
        String ahead = text.substring(0, fault);
        String with = text.substring(0, endOfWord(text, fault));
        if (with.length() + longest() > MOST) {
            return false;
        }
        c.holds("\"" + ahead + "\" does not go on, and its fault is said to be behind it", goesOn(ahead));
        if (fault < text.length()) {
            c.holds("\"" + with + "\" goes on, and its fault is said to be at " + fault, !goesOn(with));
        }
        return true;
    }

    private static int longest() {
        return endings().stream().mapToInt(String::length).max().orElse(0);
    }

    /** What may be wanting behind a text that goes on: a number, the ) for what is open, and the parts that are to come. */
    private static List<String> endings() {
        List<String> endings = new ArrayList<>();
        for (String operand : OPERANDS) {
            for (int open = 0; open <= 8; open++) {
                for (String rest : RESTS) {
                    endings.add(operand + ")".repeat(open) + rest);
                }
            }
        }
        return endings;
    }

    private static boolean goesOn(String text) {
        return endings().stream().anyMatch(ending -> lawOf(text + ending) >= 0);
    }

    private static int endOfWord(String text, int from) {
        int end = Math.min(from + 1, text.length());
        while (end < text.length() && isOneWord(text.charAt(from), text.charAt(end))) {
            end++;
        }
        return end;
    }

    private static boolean isOneWord(char first, char next) {
        return isLetter(first) && isLetter(next) || isDigit(first) && isDigit(next);
    }

    private static boolean isLetter(char sign) {
        return sign >= 'a' && sign <= 'z';
    }

    private static boolean isDigit(char sign) {
        return sign >= '0' && sign <= '9';
    }
}
