import java.math.BigInteger;
import java.util.ArrayList;
import java.util.Collections;
import java.util.List;

/** The draws and the shuffling as the document tells them, with numbers that never wrap by themselves. */
final class Seed {
    private static final BigInteger WORD = BigInteger.ONE.shiftLeft(64);
    private static final BigInteger FACTOR = new BigInteger("6364136223846793005");
    private static final BigInteger SUMMAND = new BigInteger("1442695040888963407");
    private BigInteger z;

    Seed(long seed) {
        this(BigInteger.valueOf(seed));
    }

    Seed(BigInteger seed) {
        z = seed.mod(WORD);
    }

    int draw(int n) {
        z = z.multiply(FACTOR).add(SUMMAND).mod(WORD);
        return z.shiftRight(33).mod(BigInteger.valueOf(n)).intValue();
    }

    <T> List<T> shuffled(List<T> things) {
        List<T> list = new ArrayList<>(things);
        for (int i = list.size() - 1; i >= 1; i--) {
            Collections.swap(list, i, draw(i + 1));
        }
        return list;
    }

    int[] shuffled(int... things) {
        List<Integer> list = new ArrayList<>();
        for (int thing : things) {
            list.add(thing);
        }
        return shuffled(list).stream().mapToInt(x -> x).toArray();
    }
}
