import java.util.ArrayList;
import java.util.List;

/** Promise 17's limits: 24 letters, 1000 exchanges and not one more; the words are collected literally besides. */
public final class LimitsTest {
    private LimitsTest() {
    }

    public static void main(String[] args) {
        limit(0, 0, 1, "ccccccccbbaaaaaaaaaaaa", 1000);
        limit(0, 1, 0, "cccccbbbbbaaaaaaaaaaaaa", 1000);
        limit(0, 0, 3, "cccccccbbbbbaaaaaaa", 1001);
        limit(0, 1, 1, "ccccccccbbbbbbbaaaaaa", 1001);
        limit(3, 3, 3, "bbbbbbbbbbbbaaaaaaaaaaaa", 0);
        Check.finish("LimitsTest");
    }

    /** Due is how many exchanges it takes; 0 if that is just known to be far more than 1000. */
    private static void limit(int c, int e, int eOfC, String word, int due) {
        int[][][] tail = new int[6][6][6];
        tail[2][1][3] = c;
        tail[2][1][5] = e;
        tail[3][1][5] = eOfC;
        Oracle oracle = new Oracle(5, new int[] {0, 1, 1, 2, 2, 3}, tail);
        List<Integer> letters = new ArrayList<>();
        for (char letter : word.toCharArray()) {
            letters.add(letter - 'a' + 1);
        }
        int exchanges = oracle.collect(letters);
        Check.due("literally " + word, due == 0 ? Math.min(exchanges, 1001) : exchanges, due == 0 ? 1001 : due);
        HallRegisters x = new HallRegisters();
        oracle.tell(x);
        Check.due("collect " + word, Check.collect(x, word), exchanges > 1000 ? -2 : exchanges);
        for (int i = 1; i <= 5; i++) {
            Check.due("collected(" + i + ")", x.collected(i), exchanges > 1000 ? -1 : oracle.count(letters)[i]);
        }
    }
}
