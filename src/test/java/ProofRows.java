/** Rows of clauses (signs, opposites), found by trying, whose proofs are at the edge of 400 steps. */
final class ProofRows {
    /** No step is left when there are 400. */
    static final int[][] ENDS_WITH_400_STEPS = {
        {16, 14}, {57, 4}, {0, 19}, {18, 40}, {55, 0}, {41, 20}, {1, 34}, {0, 18}, {36, 0}, {34, 8},
        {0, 48}, {34, 9}, {5, 16}, {4, 32}, {0, 39}, {16, 34}};
    /** No step would be left with 401; the last one would come of the step 398. */
    static final int[][] WOULD_END_WITH_401_STEPS = {
        {24, 0}, {0, 17}, {0, 46}, {0, 29}, {58, 0}, {2, 8}, {1, 16}, {2, 20}, {3, 4}, {20, 32},
        {20, 1}, {0, 33}, {0, 5}, {54, 0}, {0, 35}, {8, 37}, {16, 37}};
    static final int[][] EMPTY_CLAUSE_IS_400TH = {
        {32, 16}, {1, 8}, {0, 9}, {32, 18}, {4, 2}, {32, 16}, {1, 36}, {0, 18}, {44, 0}, {0, 48},
        {2, 1}, {0, 18}, {32, 3}, {8, 3}, {8, 20}, {20, 0}, {16, 1}, {16, 40}, {0, 11}, {9, 0},
        {32, 8}};
    static final int[][] EMPTY_CLAUSE_WOULD_BE_401ST = {
        {16, 2}, {8, 33}, {0, 20}, {2, 12}, {10, 0}, {4, 8}, {5, 0}, {19, 32}, {36, 1}, {10, 1},
        {11, 32}, {6, 9}, {2, 8}, {4, 1}, {24, 6}, {4, 49}, {3, 32}};
    /** 24 clauses over five signs, of which none can be spared: the leaves of a tree of choices. */
    static final int[][] ALL_24_ARE_NEEDED = tree();

    private ProofRows() {}

    private static int[][] tree() {
        int[][] rows = new int[24][];
        int next = 0;
        for (int choice = 0; choice < 16; choice++) {
            int opposites = 15 ^ choice;
            if (choice < 8) {
                rows[next++] = new int[] {choice, opposites};
            } else {
                rows[next++] = new int[] {choice | 16, opposites};
                rows[next++] = new int[] {choice, opposites | 16};
            }
        }
        return rows;
    }
}
