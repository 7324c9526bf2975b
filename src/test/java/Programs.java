/** The programs that most tests begin with. */
final class Programs {
    private Programs() {
    }

    /** So many classes, with 0, 1, 2, 0, 1, 2 .. formals, and nothing else. */
    static OwnerDominance classes(int count) {
        OwnerDominance x = new OwnerDominance(8);
        for (int id = 0; id < count; id++) {
            x.addClass(id % 3);
        }
        return x;
    }
}
