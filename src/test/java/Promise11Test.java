/** Promise 11: getObjectCount and getObject. */
public final class Promise11Test {
    private static final Check CHECK = new Check();
    private static final String UNLESS =
            "`getObject(obj, what)` answers -2 unless obj is in 0..count-1 and what is in 0..7.";

    public static void main(String[] args) {
        noneBeforeTheFirstStart();
        noneAfterEachStart();
        countGrows();
        noSuchObject();
        noSuchPart();
        everyPart();
        fullHeap();
        remainAfterEveryStop();
        changeNothing();
        CHECK.end();
    }

    private static void noObjects(OwnerDominance x) {
        CHECK.due("getObjectCount()", x.getObjectCount(), 0);
        for (int obj : Ints.notIn(0, -1)) {
            for (int what = -1; what <= 8; what++) {
                CHECK.due("getObject(" + obj + ", " + what + ")", x.getObject(obj, what), -2);
            }
        }
    }

    private static void noneBeforeTheFirstStart() {
        CHECK.says("It is 0 before the first start");
        OwnerDominance x = new OwnerDominance(8);
        noObjects(x);
        x.compile(1);
        noObjects(x);
        x.addClass(0);
        x.addStmt(8, OwnerDominance.OP_NEW, 0, 0);
        x.run(1);
        noObjects(x);
    }

    private static void noneAfterEachStart() {
        CHECK.says("It is 0 before the first start and right after each start.");
        OwnerDominance x = new OwnerDominance(8);
        x.addClass(0);
        x.addStmt(8, OwnerDominance.OP_NEW, 0, 0);
        x.compile(1);
        noObjects(x);
        x.run(1);
        x.restart();
        noObjects(x);
        for (OwnerDominance frozen : Frozen.all()) {
            frozen.restart();
            noObjects(frozen);
        }
    }

    private static OwnerDominance maker(int capacity) {
        OwnerDominance x = new OwnerDominance(capacity);
        x.addClass(0);
        for (int i = 0; i < 16; i++) {
            x.addStmt(0, OwnerDominance.OP_NEW, 2, 0);
        }
        x.addStmt(8, OwnerDominance.OP_NEW, 0, 0);
        for (int i = 0; i < 3; i++) {
            x.addStmt(8, OwnerDominance.OP_CALL, 1, 0);
        }
        CHECK.due("compile(1)", x.compile(1), 0);
        return x;
    }

    private static void countGrows() {
        CHECK.says("`getObjectCount()` answers the number of objects, count.");
        OwnerDominance x = maker(32);
        int due = 0;
        for (int i = 0; i < 35; i++) {
            int top = x.getFrameCount() - 1;
            boolean makes = x.getStmt(x.getFrame(top, 0), x.getFrame(top, 1), 0) == OwnerDominance.OP_NEW;
            due += makes ? 1 : 0;
            CHECK.due("run(1)", x.run(1), OwnerDominance.ST_RUNNING);
            CHECK.due("getObjectCount()", x.getObjectCount(), due);
            CHECK.due("the last object", x.getObject(due - 1, 0), 0);
            CHECK.due("one past the last", x.getObject(due, 0), -2);
        }
        CHECK.due("run(1)", x.run(1), OwnerDominance.ST_HEAPFULL);
        CHECK.due("getObjectCount()", x.getObjectCount(), 32);
    }

    /** Object 1 makes object 2 with the owners (1, world, 1) and then fills its fields. */
    private static OwnerDominance fourObjects() {
        OwnerDominance x = new OwnerDominance(8);
        int made = Types.type(2, Types.REP, Types.WORLD, Types.REP);
        x.addClass(0);
        x.addClass(0);
        x.addClass(2);
        for (int f = 0; f < 3; f++) {
            x.addField(2, 0);
        }
        x.addField(2, Types.type(1, Types.OWNER));
        x.setLocal(1, 2, made);
        x.setLocal(1, 3, Types.type(1, Types.REP));
        x.addStmt(1, OwnerDominance.OP_NEW, 2, made);
        x.addStmt(1, OwnerDominance.OP_NEW, 3, Types.type(1, Types.REP));
        x.addStmt(1, OwnerDominance.OP_STORE, 2, 8 * 1 + 1);
        x.addStmt(1, OwnerDominance.OP_STORE, 2, 8 * 3 + 3);
        x.setLocal(8, 1, 1);
        x.addStmt(8, OwnerDominance.OP_NEW, 0, 0);
        x.addStmt(8, OwnerDominance.OP_NEW, 1, 1);
        x.addStmt(8, OwnerDominance.OP_CALL, 3, 8 * 0 + 1);
        CHECK.due("compile(1)", x.compile(1), 0);
        CHECK.due("run(16)", x.run(16), OwnerDominance.ST_DONE);
        return x;
    }

    private static void noSuchObject() {
        CHECK.says(UNLESS + " .. what 0: the object's class;");
        OwnerDominance x = fourObjects();
        for (int obj : Ints.notIn(0, 3)) {
            for (int what = -1; what <= 8; what++) {
                CHECK.due("getObject(" + obj + ", " + what + ")", x.getObject(obj, what), -2);
            }
        }
    }

    private static void noSuchPart() {
        CHECK.says(UNLESS);
        OwnerDominance x = fourObjects();
        for (int what : Ints.notIn(0, 7)) {
            for (int obj = -1; obj <= 4; obj++) {
                CHECK.due("getObject(" + obj + ", " + what + ")", x.getObject(obj, what), -2);
            }
        }
    }

    private static void everyPart() {
        CHECK.says("what 0: the object's class; what 1, 2, 3: W0, W1, W2; what 4..7: fields 0..3.");
        OwnerDominance x = fourObjects();
        CHECK.due("getObjectCount()", x.getObjectCount(), 4);
        int[][] due = {
            {0, -1, -1, -1, -1, -1, -1, -1},
            {1, -1, -1, -1, -1, -1, -1, -1},
            {2, 1, -1, 1, -1, 0, -1, 3},
            {1, 1, -1, -1, -1, -1, -1, -1}};
        for (int obj = 0; obj < 4; obj++) {
            for (int what = 0; what < 8; what++) {
                CHECK.due("getObject(" + obj + ", " + what + ")", x.getObject(obj, what), due[obj][what]);
            }
        }
    }

    private static void fullHeap() {
        CHECK.says("`getObject(obj, what)` answers -2 unless obj is in 0..count-1");
        int[] capacities = {4, 5, 31, 32};
        for (int capacity : capacities) {
            OwnerDominance x = maker(capacity);
            for (int i = 0; i < 8; i++) {
                x.run(16);
            }
            CHECK.due("getStatus()", x.getStatus(), OwnerDominance.ST_HEAPFULL);
            for (int what = 0; what < 8; what++) {
                CHECK.due("the last object", x.getObject(capacity - 1, what), what == 0 ? 0 : -1);
                CHECK.due("one past the last", x.getObject(capacity, what), -2);
            }
            for (int obj : Ints.notIn(0, capacity - 1)) {
                CHECK.due("getObject(" + obj + ", 0)", x.getObject(obj, 0), -2);
            }
        }
    }

    private static void remainAfterEveryStop() {
        CHECK.says("its objects and frames stay as they were and remain readable. .. `getObjectCount()` answers");
        int[] counts = {1, 1, 1, 1, 4, 2};
        int i = 0;
        for (OwnerDominance x : Frozen.all()) {
            CHECK.due("getObjectCount() in status " + x.getStatus(), x.getObjectCount(), counts[i]);
            CHECK.due("getObject(0, 0)", x.getObject(0, 0), 0);
            CHECK.due("one past the last", x.getObject(counts[i], 0), -2);
            i++;
        }
    }

    private static void changeNothing() {
        CHECK.says("what 4..7: fields 0..3. Neither method changes anything.");
        OwnerDominance x = fourObjects();
        String before = Snapshot.of(x);
        for (int obj : Ints.ANY) {
            for (int what : Ints.ANY) {
                x.getObject(obj, what);
            }
        }
        for (int obj = -1; obj <= 4; obj++) {
            for (int what = -1; what <= 8; what++) {
                x.getObject(obj, what);
                x.getObjectCount();
            }
        }
        CHECK.same("after reading", Snapshot.of(x), before);
    }
}
