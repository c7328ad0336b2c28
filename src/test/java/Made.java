/** Games made up from a number, the same ones each time. */
final class Made {
    private long chance;

    Made(long number) {
        chance = number;
    }

    int some(int least, int most) {
        chance = chance * 6364136223846793005L + 1442695040888963407L;
        return least + (int) ((chance >>> 33) % (most - least + 1));
    }

    boolean oneOf(int n) {
        return some(1, n) == 1;
    }

    /** Now and then one of the two bounds, which are rare else. */
    int edged(int least, int most) {
        int kind = some(0, 9);
        return kind == 0 ? least : kind == 1 ? most : some(least, most);
    }

    String game() {
        int length = some(0, 3) == 0 ? some(4, 40) : some(4, 9);
        int lanes = some(1, 6) == 1 ? some(1, 6) : some(1, 2);
        StringBuilder text = new StringBuilder("yard long " + length + " lanes " + lanes + " runs " + edged(1, 4) + ";verse ");
        int parts = some(1, 5);
        for (int p = 0; p < parts; p++) {
            text.append(p == 0 ? "" : ",");
            int syllables = some(1, 4);
            for (int s = 0; s < syllables; s++) {
                text.append(" ").append(some(1, some(0, 3) == 0 ? 20 : 4));
            }
        }
        text.append(";one");
        for (int p = 0; p < parts - 1; p++) {
            text.append(p == 0 ? " turns " : ",").append(edged(0, some(0, 1) == 0 ? 30 : 100));
        }
        text.append(" looks ").append(some(1, 12)).append(" eye ").append(some(1, 6)).append(" sees ").append(edged(0, 40));
        int gravels = some(0, 5);
        for (int g = 0; g < gravels; g++) {
            int from = some(1, length);
            text.append(";gravel lane " + some(0, lanes - 1) + " from " + from + " to " + some(from, length) + " loud " + some(1, 40));
        }
        int creepers = some(1, 5);
        for (int c = 0; c < creepers; c++) {
            String way = some(0, 2) == 0 ? "brave" : some(0, 1) == 0 ? "safe " + some(1, 5) : "sly " + some(1, 8);
            text.append(";creeper c" + (char) ('a' + c) + " lane " + some(0, lanes - 1) + " pace " + some(1, some(0, 2) == 0 ? 20 : 5)
                + " wobble " + edged(0, 100) + " tall " + some(100, 104) + " expects " + edged(0, some(0, 1) * 90 + 10) + " " + way);
        }
        return text.toString();
    }
}
