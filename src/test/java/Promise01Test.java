/** Promise 1: construction. */
public final class Promise01Test {
    private static final Check CHECK = new Check();

    public static void main(String[] args) {
        startsEmpty(8);
        startsEmpty(0);
        startsEmpty(Integer.MIN_VALUE);
        startsEmpty(Integer.MAX_VALUE);
        limit(Integer.MIN_VALUE, 4);
        limit(-1, 4);
        limit(0, 4);
        limit(3, 4);
        limit(4, 4);
        limit(5, 5);
        limit(17, 17);
        limit(31, 31);
        limit(32, 32);
        limit(33, 32);
        limit(1000, 32);
        limit(Integer.MAX_VALUE, 32);
        CHECK.end();
    }

    private static void startsEmpty(int capacity) {
        OwnerDominance x = new OwnerDominance(capacity);
        CHECK.due("getStatus()", x.getStatus(), OwnerDominance.ST_EDIT);
        CHECK.due("getErrorAt()", x.getErrorAt(), -1);
        CHECK.due("getFrameCount()", x.getFrameCount(), 0);
        CHECK.due("getObjectCount()", x.getObjectCount(), 0);
        CHECK.due("getDecl(0, 6)", x.getDecl(0, 6), -2);
        CHECK.due("getDecl(8, 16)", x.getDecl(8, 16), 0);
        for (int v = 0; v < 8; v++) {
            CHECK.due("getDecl(8, " + (8 + v) + ")", x.getDecl(8, 8 + v), 0);
        }
        CHECK.due("addClass(0)", x.addClass(0), 0);
    }

    /** Main calls m three times, and each call makes up to sixteen objects. */
    private static void limit(int capacity, int due) {
        OwnerDominance x = new OwnerDominance(capacity);
        x.addClass(0);
        for (int i = 0; i < 16; i++) {
            x.addStmt(0, OwnerDominance.OP_NEW, 2, 0);
        }
        x.addStmt(8, OwnerDominance.OP_NEW, 0, 0);
        for (int i = 0; i < 3; i++) {
            x.addStmt(8, OwnerDominance.OP_CALL, 1, 0);
        }
        String with = "capacity " + capacity + ": ";
        CHECK.due(with + "compile(1)", x.compile(1), OwnerDominance.E_OK);
        for (int i = 0; i < 8; i++) {
            x.run(16);
        }
        CHECK.due(with + "status", x.getStatus(), OwnerDominance.ST_HEAPFULL);
        CHECK.due(with + "getObjectCount()", x.getObjectCount(), due);
    }
}
