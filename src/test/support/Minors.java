import java.math.BigInteger;
import java.util.ArrayList;
import java.util.List;

/** Whether a row is a sum of whole multiples of rows: if it changes neither their rank nor their minors' divisors. */
final class Minors {
    private Minors() {
    }

    static boolean makes(List<long[]> rows, long[] row) {
        List<long[]> more = new ArrayList<>(rows);
        more.add(row);
        int rank = row.length;
        while (rank > 0 && divisor(more, rank).signum() == 0) {
            rank--;
        }
        return rank == 0 || divisor(rows, rank).equals(divisor(more, rank));
    }

    /** The greatest common divisor of all minors of a size; 0 if all are 0. */
    private static BigInteger divisor(List<long[]> rows, int size) {
        BigInteger divisor = BigInteger.ZERO;
        int columns = rows.isEmpty() ? 0 : rows.get(0).length;
        for (int[] chosen : choices(rows.size(), size)) {
            for (int[] among : choices(columns, size)) {
                divisor = divisor.gcd(minor(rows, chosen, among));
            }
        }
        return divisor;
    }

    private static List<int[]> choices(int of, int size) {
        List<int[]> found = new ArrayList<>();
        for (int set = 0; set < 1 << of; set++) {
            if (Integer.bitCount(set) == size) {
                int[] choice = new int[size];
                int at = 0;
                for (int i = 0; i < of; i++) {
                    if ((set >> i & 1) == 1) {
                        choice[at++] = i;
                    }
                }
                found.add(choice);
            }
        }
        return found;
    }

    private static BigInteger minor(List<long[]> rows, int[] chosen, int[] among) {
        if (chosen.length == 0) {
            return BigInteger.ONE;
        }
        BigInteger sum = BigInteger.ZERO;
        int[] below = java.util.Arrays.copyOfRange(chosen, 1, chosen.length);
        for (int c = 0; c < among.length; c++) {
            long number = rows.get(chosen[0])[among[c]];
            if (number != 0) {
                int[] rest = new int[among.length - 1];
                for (int at = 0; at < rest.length; at++) {
                    rest[at] = among[at < c ? at : at + 1];
                }
                BigInteger part = minor(rows, below, rest).multiply(BigInteger.valueOf(number));
                sum = c % 2 == 0 ? sum.add(part) : sum.subtract(part);
            }
        }
        return sum;
    }
}
