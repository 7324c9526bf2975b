/** Promise 9: restart. */
public final class Promise09Test {
    private static final Check CHECK = new Check();
    private static final String FRESH = "machine\n frame 0: 8 0 -1 -1 -1 -1 -1 -1 -1 -1 -1 -1";

    public static void main(String[] args) {
        refusedInEdit();
        fromEveryStatus();
        runsAgain();
        CHECK.end();
    }

    private static void refusedInEdit() {
        OwnerDominance x = new OwnerDominance(8);
        String before = Snapshot.of(x);
        CHECK.due("restart()", x.restart(), false);
        CHECK.same("after a refused call", Snapshot.of(x), before);
        CHECK.due("compile(1)", x.compile(1), 1);
        before = Snapshot.of(x);
        CHECK.due("restart()", x.restart(), false);
        CHECK.same("after a refused call", Snapshot.of(x), before);
        CHECK.due("getErrorAt()", x.getErrorAt(), 264);
    }

    private static void fromEveryStatus() {
        for (OwnerDominance x : Frozen.all()) {
            int status = x.getStatus();
            String program = Snapshot.program(x);
            String stopped = Snapshot.machine(x);
            for (int i = 0; i < 2; i++) {
                CHECK.due("restart() from " + status, x.restart(), true);
                CHECK.due("getStatus()", x.getStatus(), OwnerDominance.ST_RUNNING);
                CHECK.due("getObjectCount()", x.getObjectCount(), 0);
                CHECK.due("getFrameCount()", x.getFrameCount(), 1);
                CHECK.due("getErrorAt()", x.getErrorAt(), -1);
                CHECK.same("the machine", Snapshot.machine(x), FRESH);
                CHECK.same("the program", Snapshot.program(x), program);
            }
            if (status != OwnerDominance.ST_RUNNING) {
                CHECK.due("run(16) after restart()", x.run(16), status);
                CHECK.same("the machine stopped again", Snapshot.machine(x), stopped);
            }
            CHECK.due("addClass(0) after restart()", x.addClass(0), -1);
            CHECK.due("compile(1) after restart()", x.compile(1), -1);
        }
    }

    /** In the second run the same ids are given anew, and nothing of the first run shows in them. */
    private static void runsAgain() {
        OwnerDominance x = new OwnerDominance(4);
        x.addClass(0);
        x.addField(0, 0);
        x.addStmt(8, OwnerDominance.OP_NEW, 0, 0);
        x.addStmt(8, OwnerDominance.OP_NEW, 1, 0);
        x.addStmt(8, OwnerDominance.OP_STORE, 0, 1);
        x.addStmt(8, OwnerDominance.OP_STORE, 1, 1);
        CHECK.due("compile(1)", x.compile(1), 0);
        CHECK.due("run(16)", x.run(16), OwnerDominance.ST_DONE);
        CHECK.due("field of 0", x.getObject(0, 4), 1);
        CHECK.due("restart()", x.restart(), true);
        CHECK.due("getObject(0, 0)", x.getObject(0, 0), -2);
        CHECK.due("run(2)", x.run(2), OwnerDominance.ST_RUNNING);
        CHECK.same("the machine", Snapshot.machine(x), "machine"
                + "\n object 0: 0 -1 -1 -1 -1 -1 -1 -1"
                + "\n object 1: 0 -1 -1 -1 -1 -1 -1 -1"
                + "\n frame 0: 8 2 -1 -1 0 1 -1 -1 -1 -1 -1 -1");
        CHECK.due("restart() in the middle", x.restart(), true);
        CHECK.same("the machine", Snapshot.machine(x), FRESH);
        CHECK.due("run(16)", x.run(16), OwnerDominance.ST_DONE);
    }
}
