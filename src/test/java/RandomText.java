import java.util.Random;

/** Texts of ORDERS, most of them right, some with a byte or two gone astray. */
final class RandomText {
    private static final String STRAY = "mcfgr;;  0123456789xM\t:/";

    private RandomText() {
    }

    static String make(Random random) {
        StringBuilder text = new StringBuilder();
        int orders = random.nextInt(7);
        for (int i = 0; i < orders; i++) {
            addOrder(random, text);
        }
        if (random.nextInt(3) == 0 && text.length() > 0) {
            spoil(random, text);
        }
        text.setLength(Math.min(text.length(), 125));
        return text.toString();
    }

    private static void spoil(Random random, StringBuilder text) {
        int at = random.nextInt(text.length());
        char stray = STRAY.charAt(random.nextInt(STRAY.length()));
        switch (random.nextInt(4)) {
            case 0:
                text.setCharAt(at, stray);
                break;
            case 1:
                text.insert(at, stray);
                break;
            case 2:
                text.deleteCharAt(at);
                break;
            default:
                text.setLength(at);
        }
    }

    private static void addOrder(Random random, StringBuilder text) {
        blanks(random, text, 0);
        switch (random.nextInt(5)) {
            case 0:
                numbers(random, text, 'm', 8, 16);
                break;
            case 1:
                numbers(random, text, 'c', 2, 8, 100);
                break;
            case 2:
                numbers(random, text, 'f', 2);
                break;
            case 3:
                int[] most = {2, 6, 2, 2, 8, 8, 8, 8, 8};
                int size = random.nextInt(20) == 0 ? 4 + random.nextInt(6) : 5 + random.nextInt(4);
                numbers(random, text, 'g', java.util.Arrays.copyOf(most, size));
                break;
            default:
                numbers(random, text, 'r', 2, 21);
        }
        blanks(random, text, 0);
        text.append(';');
        blanks(random, text, 0);
    }

    private static void numbers(Random random, StringBuilder text, char letter, int... most) {
        text.append(letter);
        for (int i = 0; i < most.length; i++) {
            blanks(random, text, i == 0 ? 0 : 1);
            int v = random.nextInt(60) == 0 ? random.nextInt(1200) : random.nextInt(most[i]);
            text.append(random.nextInt(10) == 0 ? String.format("%03d", v) : String.valueOf(v));
        }
    }

    private static void blanks(Random random, StringBuilder text, int least) {
        int blanks = least + (random.nextInt(8) == 0 ? random.nextInt(3) : 0);
        text.append(" ".repeat(blanks));
    }
}
