import java.util.Random;

/** Texts that are laws, or were till a byte of them was changed. */
final class LawTexts {
    private static final int MOST = 108;
    private static final String BYTES = "  ()!!&|<=>+-*/0159epmxbrynvdalcstandsnoticelifeZ\0\u00ff.\t";

    private final Random random;
    private final StringBuilder text = new StringBuilder();

    private LawTexts(Random random) {
        this.random = random;
    }

    static String some(Random random) {
        String text = new LawTexts(random).law();
        for (int tries = 0; text.length() > MOST && tries < 50; tries++) {
            text = new LawTexts(random).law();
        }
        text = text.substring(0, Math.min(MOST, text.length()));
        for (int changes = random.nextInt(3) == 0 ? 1 + random.nextInt(2) : 0; changes > 0; changes--) {
            text = changed(text, random);
        }
        return text;
    }

    private static String changed(String text, Random random) {
        int at = random.nextInt(text.length() + 1);
        String byteText = "" + BYTES.charAt(random.nextInt(BYTES.length()));
        int kind = random.nextInt(4);
        if (kind == 0 && text.length() < MOST) {
            return text.substring(0, at) + byteText + text.substring(at);
        }
        if (kind == 1 && at < text.length()) {
            return text.substring(0, at) + byteText + text.substring(at + 1);
        }
        if (kind == 2 && at < text.length()) {
            return text.substring(0, at) + text.substring(at + 1);
        }
        return text.substring(0, at);
    }

    private String law() {
        blanks();
        String[] heads = {"stands", "notice", "life"};
        for (int i = 0; i < 3; i++) {
            word(heads[i]);
            expression(i == 1, random.nextInt(4));
        }
        return text.toString();
    }

    private void blanks() {
        text.append(" ".repeat(random.nextInt(4) == 0 ? random.nextInt(3) : 0));
    }

    private void word(String word) {
        boolean isBehindWord = text.length() > 0 && Character.isLetterOrDigit(text.charAt(text.length() - 1));
        if (isBehindWord && random.nextInt(60) > 0) {
            text.append(' ');
        }
        text.append(word);
        blanks();
    }

    private void expression(boolean isNotice, int depth) {
        part(isNotice, depth);
        for (int more = random.nextInt(3); more > 0; more--) {
            text.append("|&<=>+-*/".charAt(random.nextInt(9)));
            blanks();
            part(isNotice, depth);
        }
    }

    private void part(boolean isNotice, int depth) {
        int kind = random.nextInt(9);
        if (kind == 0) {
            text.append("!".repeat(1 + random.nextInt(random.nextInt(9) == 0 ? 9 : 2)));
            part(isNotice, depth);
        } else if (kind == 1 && depth > 0) {
            int parens = random.nextInt(9) == 0 ? 1 + random.nextInt(9) : 1;
            text.append("(".repeat(parens));
            expression(isNotice, depth - 1);
            text.append(")".repeat(parens));
            blanks();
        } else if (kind < 5) {
            word(String.valueOf(random.nextInt(random.nextInt(30) == 0 ? 20000 : random.nextInt(2) == 0 ? 4 : 10000)));
        } else {
            String names = isNotice || random.nextInt(60) == 0 ? "epmxbrynvdalc" : "epmxbrynvd";
            word(String.valueOf(names.charAt(random.nextInt(names.length()))));
        }
    }
}
