/** Promise 1: construction. */
public final class Promise01Test {
    private static final Check CHECK = new Check();

    public static void main(String[] args) {
        below4();
        above32();
        from4To32();
        everyIntIsAccepted();
        noClasses();
        mainIsEmpty();
        statusIsEdit();
        noErrorLocation();
        noFrames();
        CHECK.end();
    }

    private static void below4() {
        CHECK.says("any value below 4 becomes 4");
        int[] capacities = {3, 2, 1, 0, -1, -4, -32, Integer.MIN_VALUE, Integer.MIN_VALUE + 8};
        for (int capacity : capacities) {
            limit(capacity, 4);
        }
    }

    private static void above32() {
        CHECK.says("any value above 32 becomes 32");
        int[] capacities = {33, 34, 36, 48, 64, 1000, 65540, 0x10000008, Integer.MAX_VALUE};
        for (int capacity : capacities) {
            limit(capacity, 32);
        }
    }

    private static void from4To32() {
        CHECK.says("`new OwnerDominance(capacity)` sets the heap object limit to capacity clamped to 4..32");
        for (int capacity = 4; capacity <= 32; capacity++) {
            limit(capacity, capacity);
        }
    }

    /** Main calls m three times, and each call makes up to sixteen objects. */
    private static void limit(int capacity, int due) {
        OwnerDominance x = new OwnerDominance(capacity);
        x.addClass(0);
        for (int i = 0; i < 16; i++) {
            x.addStmt(0, OwnerDominance.OP_NEW, 2, 0);
        }
        x.addStmt(8, OwnerDominance.OP_NEW, 0, 0);
        for (int i = 0; i < 3; i++) {
            x.addStmt(8, OwnerDominance.OP_CALL, 1, 0);
        }
        String with = "capacity " + capacity + ": ";
        CHECK.due(with + "compile(1)", x.compile(1), OwnerDominance.E_OK);
        for (int i = 0; i < 8; i++) {
            x.run(16);
        }
        CHECK.due(with + "status", x.getStatus(), OwnerDominance.ST_HEAPFULL);
        CHECK.due(with + "getObjectCount()", x.getObjectCount(), due);
    }

    private static void everyIntIsAccepted() {
        CHECK.says("Every int is accepted.");
        String due = Snapshot.of(new OwnerDominance(8));
        int[] capacities = Ints.notIn(4, 32);
        for (int capacity : capacities) {
            OwnerDominance x = new OwnerDominance(capacity);
            CHECK.same("new OwnerDominance(" + capacity + ")", Snapshot.of(x), due);
            CHECK.due("addClass(0)", x.addClass(0), 0);
            CHECK.due("addStmt(8, 1, 0, 0)", x.addStmt(8, 1, 0, 0), 0);
            CHECK.due("compile(1)", x.compile(1), 0);
            CHECK.due("run(1)", x.run(1), OwnerDominance.ST_DONE);
        }
    }

    private static void noClasses() {
        CHECK.says("there are no classes (classCount 0)");
        OwnerDominance x = new OwnerDominance(8);
        for (int cls = 0; cls < 8; cls++) {
            for (int item = 0; item <= 16; item++) {
                CHECK.due("getDecl(" + cls + ", " + item + ")", x.getDecl(cls, item), -2);
            }
        }
        CHECK.due("addClass(0)", x.addClass(0), 0);
    }

    private static void mainIsEmpty() {
        CHECK.says("main has no statements and all its locals are the type word 0");
        OwnerDominance x = new OwnerDominance(8);
        CHECK.due("getDecl(8, 16)", x.getDecl(8, 16), 0);
        CHECK.due("getStmt(8, 0, 0)", x.getStmt(8, 0, 0), -2);
        for (int v = 0; v < 8; v++) {
            CHECK.due("getDecl(8, " + (8 + v) + ")", x.getDecl(8, 8 + v), 0);
        }
    }

    private static void statusIsEdit() {
        CHECK.says("status is ST_EDIT");
        CHECK.due("getStatus()", new OwnerDominance(8).getStatus(), OwnerDominance.ST_EDIT);
    }

    private static void noErrorLocation() {
        CHECK.says("there is no error location (`getErrorAt()` answers -1)");
        CHECK.due("getErrorAt()", new OwnerDominance(8).getErrorAt(), -1);
    }

    private static void noFrames() {
        CHECK.says("there are no frames");
        OwnerDominance x = new OwnerDominance(8);
        CHECK.due("getFrameCount()", x.getFrameCount(), 0);
        CHECK.due("getFrame(0, 0)", x.getFrame(0, 0), -2);
        CHECK.due("getObjectCount()", x.getObjectCount(), 0);
    }
}
