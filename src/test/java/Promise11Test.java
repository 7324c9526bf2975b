/** Promise 11: getObjectCount and getObject. */
public final class Promise11Test {
    private static final Check CHECK = new Check();
    private static final int[] FAR = {-1, -2, 8, 9, 32, 33, Integer.MIN_VALUE, Integer.MAX_VALUE};

    public static void main(String[] args) {
        beforeTheFirstStart();
        everyPart();
        remainAfterEveryStop();
        CHECK.end();
    }

    private static void noObjects(OwnerDominance x) {
        CHECK.due("getObjectCount()", x.getObjectCount(), 0);
        for (int obj = -1; obj <= 32; obj++) {
            CHECK.due("getObject(" + obj + ", 0)", x.getObject(obj, 0), -2);
        }
    }

    private static void beforeTheFirstStart() {
        OwnerDominance x = new OwnerDominance(8);
        noObjects(x);
        x.compile(1);
        noObjects(x);
        x.addClass(0);
        x.addStmt(8, OwnerDominance.OP_NEW, 0, 0);
        x.compile(1);
        noObjects(x);
        x.run(1);
        CHECK.due("getObjectCount()", x.getObjectCount(), 1);
        CHECK.due("getObject(0, 0)", x.getObject(0, 0), 0);
        CHECK.due("getObject(1, 0)", x.getObject(1, 0), -2);
        x.restart();
        noObjects(x);
    }

    /** Object 1 makes object 2 with the owners (1, world, 1) and then fills its fields. */
    private static void everyPart() {
        OwnerDominance x = new OwnerDominance(8);
        int made = Types.type(2, Types.REP, Types.WORLD, Types.REP);
        x.addClass(0);
        x.addClass(0);
        x.addClass(2);
        for (int f = 0; f < 3; f++) {
            x.addField(2, 0);
        }
        x.addField(2, Types.type(1, Types.OWNER));
        x.setLocal(1, 2, made);
        x.setLocal(1, 3, Types.type(1, Types.REP));
        x.addStmt(1, OwnerDominance.OP_NEW, 2, made);
        x.addStmt(1, OwnerDominance.OP_NEW, 3, Types.type(1, Types.REP));
        x.addStmt(1, OwnerDominance.OP_STORE, 2, 8 * 1 + 1);
        x.addStmt(1, OwnerDominance.OP_STORE, 2, 8 * 3 + 3);
        x.setLocal(8, 1, 1);
        x.addStmt(8, OwnerDominance.OP_NEW, 0, 0);
        x.addStmt(8, OwnerDominance.OP_NEW, 1, 1);
        x.addStmt(8, OwnerDominance.OP_CALL, 3, 8 * 0 + 1);
        CHECK.due("compile(1)", x.compile(1), 0);
        CHECK.due("run(16)", x.run(16), OwnerDominance.ST_DONE);
        CHECK.due("getObjectCount()", x.getObjectCount(), 4);
        int[] due = {2, 1, -1, 1, -1, 0, -1, 3};
        for (int what = 0; what < 8; what++) {
            CHECK.due("getObject(2, " + what + ")", x.getObject(2, what), due[what]);
        }
        String before = Snapshot.of(x);
        for (int far : FAR) {
            CHECK.due("getObject(2, " + far + ")", x.getObject(2, far), -2);
            CHECK.due("getObject(0, " + far + ")", x.getObject(0, far), -2);
            CHECK.due("getObject(" + far + ", 0)", x.getObject(far, 0), -2);
            CHECK.due("getObject(" + far + ", " + far + ")", x.getObject(far, far), -2);
        }
        for (int what = 0; what < 8; what++) {
            CHECK.due("getObject(4, " + what + ")", x.getObject(4, what), -2);
            CHECK.due("getObject(-1, " + what + ")", x.getObject(-1, what), -2);
        }
        CHECK.same("after reading", Snapshot.of(x), before);
    }

    private static void remainAfterEveryStop() {
        int[] counts = {1, 1, 1, 1, 4, 2};
        int i = 0;
        for (OwnerDominance x : Frozen.all()) {
            CHECK.due("getObjectCount() in status " + x.getStatus(), x.getObjectCount(), counts[i]);
            CHECK.due("getObject(0, 0)", x.getObject(0, 0), 0);
            CHECK.due("one past the last", x.getObject(counts[i], 0), -2);
            i++;
        }
    }
}
