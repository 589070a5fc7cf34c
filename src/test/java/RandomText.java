import java.util.Random;

/** Texts that tell a sea in which much comes ashore, and the same with a byte or two spoiled. */
final class RandomText {
    private static final String[] KINDS = {"tub", "bottle", "piano", "coop"};
    private static final String SPOILS = " ;;0159atz@\n";
    private final Random random;
    private final StringBuilder text = new StringBuilder();

    RandomText(Random random) {
        this.random = random;
    }

    String text() {
        int tubs = 2 + random.nextInt(3);
        for (int t = 0; t < tubs; t++) {
            line(KINDS[random.nextInt(4)], 0, 9, 1, 5, 0, 9, 1, 99);
        }
        int heirs = 1 + random.nextInt(4);
        for (int i = 0; i < heirs; i++) heir();
        if (random.nextBoolean()) line("phase", 0, 5);
        for (int n = random.nextInt(5); n > 0; n--) {
            if (random.nextInt(3) > 0) line("wind", 3 * n - 3, 3 * n - 1, 1, 4);
            else line("current", 2 * n - 1, 2 * n, 0, 4);
        }
        while (text.length() > 160) text.setLength(text.lastIndexOf(";", text.length() - 2) + 1);
        return text.toString();
    }

    String spoiled() {
        text();
        if (random.nextInt(3) == 0) return repeated();
        for (int n = 1 + random.nextInt(2); n > 0; n--) {
            int at = random.nextInt(text.length());
            char by = SPOILS.charAt(random.nextInt(SPOILS.length()));
            switch (random.nextInt(3)) {
                case 0: text.setCharAt(at, by); break;
                case 1: text.insert(at, by); break;
                default: if (text.length() > 1) text.deleteCharAt(at);
            }
        }
        if (text.length() > 160) text.setLength(160);
        return text.toString();
    }

    /** One of its lines as often as the tape has room: it is told already, or the fifth. */
    private String repeated() {
        String[] lines = text.toString().split(";");
        String again = lines[random.nextInt(lines.length)] + ";";
        while (text.length() + again.length() <= 160) {
            if (random.nextBoolean()) text.append(again);
            else text.insert(0, again);
        }
        return text.toString();
    }

    private void heir() {
        int from = random.nextInt(9);
        line("heir", 0, 9, from, from, from, 23, 0, 6);
    }

    private void line(String name, int... bounds) {
        blanks(0);
        text.append(name);
        for (int b = 0; b < bounds.length; b += 2) {
            blanks(b == 0 ? 0 : 1);
            text.append(bounds[b] + random.nextInt(bounds[b + 1] - bounds[b] + 1));
        }
        blanks(0);
        text.append(';');
    }

    private void blanks(int least) {
        int n = random.nextInt(6) == 0 ? least + 1 : least;
        for (int b = 0; b < n; b++) text.append(' ');
    }
}
