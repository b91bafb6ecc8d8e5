/** Numbers that look random and are the same in every run. */
final class Numbers {
    private long state;

    Numbers(long seed) {
        state = seed;
    }

    /** From low to high, both included. */
    int from(int low, int high) {
        state = state * 6364136223846793005L + 1442695040888963407L;
        return low + (int) ((state >>> 33) % (high - low + 1L));
    }

    /** {kind, p, q, r} with numbers as the document wants them. */
    int[] properConstraint(int kind) {
        switch (kind) {
            case 0:
                return new int[] {0, from(0, 2400), from(-20, 40), from(-9, 9)};
            case 1:
                return new int[] {1, from(0, 2400), from(-12, 12), from(-9, 9)};
            case 2:
                return new int[] {2, from(0, 15), from(-9, 9), from(-9, 9)};
            case 3:
                return new int[] {3, from(0, 3), from(0, 3), from(0, 46655)};
            case 4:
                return new int[] {4, from(0, 3), from(0, 3), from(0, 3)};
            case 5:
                return new int[] {5, from(0, 23), from(0, 23), from(-9, 9)};
            case 6:
                return new int[] {6, from(0, 3), from(0, 3), from(0, 5)};
            case 7:
                return new int[] {7, from(0, 15), from(0, 4), from(0, 5)};
            default:
                return new int[] {8, from(0, 3), from(0, 3), from(0, 15)};
        }
    }
}
