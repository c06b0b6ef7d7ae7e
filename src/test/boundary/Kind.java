/** The document's kinds, by their numbers. */
final class Kind {
    static final int BENCH = 0;
    static final int PEW = 1;
    static final int RING = 2;
    static final int BOAT = 3;
    static final int BED = 4;
    static final int TABLE = 5;
    static final int RAFT = 6;

    private Kind() {
    }
}
