/** Arguments that the document refuses. */
final class Wrong {
    static final int[] PROCESSES = {-1, 3, 4, -3, 9, 27, Integer.MIN_VALUE, Integer.MAX_VALUE};
    static final int[] SETS = {0, 8, 9, 15, -1, -7, 16, Integer.MIN_VALUE, Integer.MAX_VALUE};

    private Wrong() {
    }
}
