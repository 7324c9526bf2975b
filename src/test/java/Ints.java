import java.util.Arrays;
import java.util.Set;
import java.util.TreeSet;

/** Whole numbers for the edges of what a call accepts. */
final class Ints {
    /** Numbers to be stored exactly as given. */
    static final int[] ANY = {1, -1, -2, 15, 16, 255, 256, 65535, 65536, -65536, 0x10000000, 0x7f7f7f7f,
        Integer.MIN_VALUE, Integer.MIN_VALUE + 1, Integer.MAX_VALUE - 1, Integer.MAX_VALUE, 0};

    private Ints() {
    }

    /**
     * Numbers that are not in first..last: close to it, far from it, and such as fall into it again where
     * an index that is computed from them wraps around.
     */
    static int[] notIn(int first, int last) {
        Set<Integer> numbers = new TreeSet<>();
        int[] bases = {first, last, 0};
        int[] steps = {1, 2, 3, 4, 8, 16, 32, 64, 256, 65536};
        for (int base : bases) {
            for (int step : steps) {
                numbers.add(base + step);
                numbers.add(base - step);
            }
            for (int bit = 24; bit < 32; bit++) {
                numbers.add(base + (1 << bit));
                numbers.add(base - (1 << bit));
            }
        }
        // A third and two thirds of the wrap-around, for what is held by threes.
        numbers.add(0x55555555);
        numbers.add(0x55555556);
        numbers.add(0xaaaaaaaa);
        numbers.add(0xaaaaaaab);
        numbers.add(Integer.MAX_VALUE);
        numbers.add(Integer.MIN_VALUE);
        numbers.removeIf(n -> n >= first && n <= last);
        return numbers.stream().mapToInt(n -> n).toArray();
    }

    /** Numbers that are no body of a program with so many classes. */
    static int[] notBodies(int classes) {
        int[] numbers = notIn(0, classes - 1);
        return Arrays.stream(numbers).filter(n -> n != OwnerDominance.BODY_MAIN).toArray();
    }
}
