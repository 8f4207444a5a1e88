import java.util.Random;

/** Makes random texts: pieces of any kind in a row, or words as the grammar has them. */
final class RandomWords {
    private static final String[] PIECES = {"a", "b", "c", "d", "e", "f", "R0", "R1", "R2", "(", ")", "[", ",", "]", "^2",
        "^-1", " ^ - 3", "^99", "^100", " ", "g", "R", "^", "-", "7", "^0", "~", "((((", "[(["};

    private RandomWords() {
    }

    static String soup(Random random) {
        StringBuilder text = new StringBuilder();
        for (int piece = random.nextInt(12); piece >= 0; piece--) {
            text.append(PIECES[random.nextInt(PIECES.length)]);
        }
        return text.toString();
    }

    /** A word as the grammar has it; at times one byte of it is another. */
    static String word(Random random, int depth, boolean right) {
        StringBuilder text = new StringBuilder();
        for (int factor = random.nextInt(depth > 3 ? 2 : 4); factor > 0; factor--) {
            text.append(random.nextInt(5) == 0 ? " " : "");
            int kind = random.nextInt(depth > 6 ? 4 : 7);
            if (kind < 2) {
                text.append((char) ('a' + random.nextInt(right ? 3 : 6)));
            } else if (kind < 4) {
                text.append('R').append(random.nextInt(10));
            } else if (kind == 4) {
                text.append('(').append(word(random, depth + 1, right)).append(')');
            } else {
                text.append('[').append(word(random, depth + 1, right));
                for (int more = 1 + random.nextInt(2); more > 0; more--) {
                    text.append(',').append(word(random, depth + 1, right));
                }
                text.append(']');
            }
            if (random.nextInt(4) == 0) {
                text.append(random.nextBoolean() ? "^" : " ^ -").append(random.nextInt(random.nextBoolean() ? 4 : 100));
            }
        }
        text.append(random.nextInt(5) == 0 ? " " : "");
        if (depth == 0 && !right && text.length() > 0) {
            String piece = PIECES[random.nextInt(PIECES.length)];
            text.setCharAt(random.nextInt(text.length()), piece.charAt(random.nextInt(piece.length())));
        }
        return text.toString();
    }
}
