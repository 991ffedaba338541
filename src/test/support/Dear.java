/** Certificates and grants among which names get dear: near the greatest cost that counts, and past it. */
final class Dear {
    /** Ten certificates each, (owner, name, principal, path) after one another. */
    static final int[][] CERTIFICATES = {
        {3,2,4,0, 5,0,0,0, 4,2,5,0, 0,2,3,5, 5,1,4,10, 0,1,3,0, 3,0,4,11, 4,0,5,9, 4,2,4,4, 5,2,0,11},
        {3,2,4,0, 5,0,0,0, 4,2,5,0, 0,2,5,8, 5,1,4,10, 0,1,3,0, 3,0,4,11, 4,0,5,6, 4,2,4,4, 5,0,5,7},
        {5,1,4,12, 4,0,2,11, 5,2,4,0, 4,2,0,6, 0,2,5,7, 2,2,0,5, 2,0,0,0, 4,1,2,0, 0,0,0,12, 0,0,5,0},
        {2,0,3,0, 2,2,5,8, 3,2,4,10, 5,0,4,12, 4,2,2,12, 3,1,2,0, 3,0,5,0, 5,1,5,10, 5,2,3,7, 3,1,5,4},
    };

    /** Open grants, (giver, principal, path) after one another, that make long rows with the first of those. */
    static final int[] GRANTS = {0,5,11, 4,3,6, 3,5,12, 2,5,1, 1,2,0};

    private Dear() {
    }
}
