/** Arguments that the document refuses: just out of range, far out, and such as a cast or a mask brings back in. */
final class Wrong {
    static final int[] PROCESSES = {-1, 3, 4, -2, -3, 9, 27, 256, 65537, 1 << 30,
        Integer.MIN_VALUE, Integer.MIN_VALUE + 1, Integer.MAX_VALUE};
    static final int[] SETS = {0, 8, 9, 15, -1, -7, 16, 257, 65543,
        Integer.MIN_VALUE, Integer.MIN_VALUE + 1, Integer.MIN_VALUE + 7, Integer.MAX_VALUE};
    static final int[] STATES = {-1, 9, 10, -9, 18, 27, 256, 65536,
        Integer.MIN_VALUE, Integer.MIN_VALUE + 1, Integer.MAX_VALUE};
    static final int[] MESSAGES = {-1, 24, 25, -24, 256, 65536, 1000,
        Integer.MIN_VALUE, Integer.MIN_VALUE + 1, Integer.MAX_VALUE};

    private Wrong() {
    }
}
