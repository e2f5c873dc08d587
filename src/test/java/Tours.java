/** The shortest row through some places, found by trying all rows from the least one on. */
final class Tours {
    final int[] row;
    int length = Integer.MAX_VALUE;

    private final int[] places;
    private final int[] tried;
    private final boolean[] used;

    Tours(int... places) {
        this.places = places;
        int size = places.length / 2;
        row = new int[size];
        tried = new int[size];
        used = new boolean[size];
        tryFrom(0, 0);
    }

    // The first one of like ones is the least row.
    private void tryFrom(int at, int soFar) {
        if (at == tried.length) {
            if (soFar < length) {
                length = soFar;
                System.arraycopy(tried, 0, row, 0, at);
            }
            return;
        }
        for (int k = 0; k < tried.length; k++) {
            if (!used[k]) {
                used[k] = true;
                tried[at] = k;
                tryFrom(at + 1, soFar + (at == 0 ? 0 : way(tried[at - 1], k)));
                used[k] = false;
            }
        }
    }

    private int way(int a, int b) {
        return Math.abs(places[2 * a] - places[2 * b]) + Math.abs(places[2 * a + 1] - places[2 * b + 1]);
    }
}
