import java.util.Random;

/** TEXTS that are all right or nearly so, as texts go wrong that somebody writes. */
final class RandomTexts {
    private static final String SIGNS = "0123456789::,,//;;12 x";

    private RandomTexts() {
    }

    static String text(Random random) {
        StringBuilder text = new StringBuilder().append(random.nextInt(3)).append(':');
        int marks = random.nextInt(6) == 0 ? 8 : random.nextInt(9);
        for (int m = 0; m < marks; m++) {
            text.append(m == 0 ? "" : ",");
            text.append(random.nextInt(20) == 0 ? "0" + random.nextInt(10) : power(random));
        }
        if (random.nextInt(4) != 0) {
            text.append('/').append(3 + random.nextInt(4));
            int splits = random.nextInt(4);
            for (int k = 0; k < splits; k++) {
                text.append(';').append(split(random));
            }
        }
        if (random.nextInt(2) == 0) {
            harm(text, random);
        }
        return text.toString();
    }

    private static String power(Random random) {
        return "" + (random.nextInt(12) == 0 ? random.nextInt(15) : random.nextInt(3));
    }

    private static String split(Random random) {
        String leaves = "";
        int size = 2 + random.nextInt(10) / 6 + random.nextInt(10) / 9;
        int least = random.nextInt(20) == 0 ? 0 : 1;
        for (int tries = 0; leaves.length() < size && tries < 30; tries++) {
            int k = least + random.nextInt(random.nextInt(10) == 0 ? 9 : 5);
            if (leaves.indexOf('0' + k) < 0) {
                leaves += k;
            }
        }
        char[] rising = leaves.toCharArray();
        java.util.Arrays.sort(rising);
        return new String(rising);
    }

    private static void harm(StringBuilder text, Random random) {
        int place = random.nextInt(text.length());
        char sign = SIGNS.charAt(random.nextInt(SIGNS.length()));
        switch (random.nextInt(4)) {
            case 0: text.setCharAt(place, sign); break;
            case 1: text.insert(place, sign); break;
            case 2: text.deleteCharAt(place); break;
            default: text.setLength(place); break;
        }
        if (random.nextInt(3) == 0) {
            text.append(sign);
        }
    }
}
