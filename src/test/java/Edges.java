/** Arguments at the edges that the document names: just inside, just outside and far outside. */
final class Edges {
    static final int LEAST = Integer.MIN_VALUE;
    static final int MOST = Integer.MAX_VALUE;

    private Edges() { }

    /** Rows of start and len: the shortest and the longest at both ends of the space. */
    static int[][] properRanges(int pages) {
        return new int[][] {
            {0, 1}, {0, pages - 1}, {0, pages}, {1, pages - 1}, {pages - 2, 2}, {pages - 1, 1},
        };
    }

    static int[][] improperRanges(int pages) {
        return new int[][] {
            // Each bound missed by one.
            {-1, 1}, {-1, 2}, {-1, pages + 1}, {0, 0}, {pages - 1, 0}, {pages, 0}, {5, -1}, {pages + 1, -1},
            {0, pages + 1}, {1, pages}, {pages - 1, 2}, {pages, 1},
            // Far outside, and numbers that a narrower type would take for proper ones.
            {256, 1}, {65536, 1}, {0, 256 + pages}, {0, 65537}, {-65536, 1}, {0, -65535},
            {LEAST, 1}, {LEAST + 1, 1}, {MOST, 1}, {MOST - 1, 1}, {0, LEAST}, {5, LEAST}, {0, MOST}, {1, MOST},
            {pages - 1, MOST}, {MOST, pages}, {MOST, LEAST}, {LEAST, MOST},
            // Sums that wrap around to something small, or to nothing.
            {MOST, MOST}, {LEAST, LEAST}, {MOST, 2}, {2, MOST}, {MOST - 1, 2}, {LEAST + 16, LEAST},
            {LEAST, LEAST + 16}, {-16, 32}, {MOST - 15, 16}, {1 << 30, 3 << 29},
        };
    }

    static int[] improperProts() {
        return new int[] {-1, 8, 9, -8, 255, 256, 257, 65536, RegionMap.FREE, LEAST, LEAST + 1, MOST - 1, MOST};
    }

    /** Rows of len and backing; no len is above 16, so that the range can always be proper. */
    static int[][] properBackings() {
        return new int[][] {
            {1, 0}, {16, 0}, {1, 1024}, {16, 1024}, {1, 2046}, {2, 2046}, {1, 2047}, {1, 2048}, {16, 2048},
            {16, 1024 + 1008}, {15, 1024 + 1009}, {1, 7168}, {16, 7168}, {16, 7168 + 1008}, {2, 8190}, {1, 8191},
        };
    }

    static int[][] improperBackings() {
        return new int[][] {
            {1, -1}, {1, 1}, {1, 2}, {1, 512}, {1, 1022}, {1, 1023}, {2, 1023}, {1, 8192}, {1, 8193},
            {1, 9 * 1024}, {1, -1023}, {1, -1024}, {1, -1025}, {1, -2048}, {1, -8191}, {1, RegionMap.FREE},
            {1, 65536}, {1, 65536 + 1024}, {1, LEAST}, {1, LEAST + 1}, {1, LEAST + 1024}, {1, MOST - 1}, {1, MOST},
            {2, 2047}, {3, 2046}, {16, 1024 + 1009}, {2, 3071}, {2, 7167}, {2, 8191}, {3, 8190}, {16, 7168 + 1009},
        };
    }
}
