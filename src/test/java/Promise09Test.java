/** Promise 9: restart. */
public final class Promise09Test {
    private static final Check CHECK = new Check();
    private static final String FRESH = "machine\n frame 0: 8 0 -1 -1 -1 -1 -1 -1 -1 -1 -1 -1";

    public static void main(String[] args) {
        refusedInEdit();
        startsAfresh();
        answersTrue();
        sameAsAfterCompile();
        fullAgain();
        runsAgain();
        programStays();
        locationStays();
        CHECK.end();
    }

    private static void refusedInEdit() {
        CHECK.says("`restart()` is refused, answering false and changing nothing, if status == ST_EDIT.");
        OwnerDominance x = new OwnerDominance(8);
        for (int i = 0; i < 3; i++) {
            String before = Snapshot.of(x);
            CHECK.due("restart()", x.restart(), false);
            CHECK.due("restart() again", x.restart(), false);
            CHECK.same("after a refused call", Snapshot.of(x), before);
            CHECK.due("getStatus()", x.getStatus(), OwnerDominance.ST_EDIT);
            CHECK.due("getFrameCount()", x.getFrameCount(), 0);
            if (i == 0) {
                CHECK.due("compile(1)", x.compile(1), 1);
            }
            if (i == 1) {
                CHECK.due("getErrorAt()", x.getErrorAt(), 264);
                CHECK.due("addClass(0)", x.addClass(0), 0);
                CHECK.due("compile(2)", x.compile(2), -1);
            }
        }
    }

    private static void startsAfresh() {
        CHECK.says("Otherwise the machine starts afresh as after a successful compile: no objects; one main frame"
                + " with pc 0 and all locals null; status ST_RUNNING.");
        for (OwnerDominance x : Frozen.all()) {
            for (int i = 0; i < 2; i++) {
                x.restart();
                CHECK.due("getStatus()", x.getStatus(), OwnerDominance.ST_RUNNING);
                CHECK.due("getObjectCount()", x.getObjectCount(), 0);
                CHECK.due("getObject(0, 0)", x.getObject(0, 0), -2);
                CHECK.due("getFrameCount()", x.getFrameCount(), 1);
                CHECK.due("getFrame(1, 0)", x.getFrame(1, 0), -2);
                CHECK.same("the machine", Snapshot.machine(x), FRESH);
            }
        }
    }

    private static void answersTrue() {
        CHECK.says("status ST_RUNNING. It answers true.");
        for (OwnerDominance x : Frozen.all()) {
            CHECK.due("restart() from " + x.getStatus(), x.restart(), true);
            CHECK.due("restart() again", x.restart(), true);
        }
    }

    private static void sameAsAfterCompile() {
        CHECK.says("Otherwise the machine starts afresh as after a successful compile");
        for (OwnerDominance x : Frozen.all()) {
            int status = x.getStatus();
            String stopped = Snapshot.machine(x);
            x.restart();
            int steps = status == OwnerDominance.ST_RUNNING ? 1 : 16;
            CHECK.due("run(" + steps + ") after restart()", x.run(steps), status);
            CHECK.same("the machine stopped again", Snapshot.machine(x), stopped);
        }
        OwnerDominance x = new OwnerDominance(8);
        x.addClass(0);
        x.compile(1);
        CHECK.due("restart() before the first step", x.restart(), true);
        CHECK.due("run(1) of an empty main", x.run(1), OwnerDominance.ST_DONE);
        CHECK.due("restart()", x.restart(), true);
        CHECK.due("getStatus()", x.getStatus(), OwnerDominance.ST_RUNNING);
        CHECK.due("run(1) of an empty main", x.run(1), OwnerDominance.ST_DONE);
    }

    /** The heap is as wide as before: the object that filled it is gone, and the limit stays. */
    private static void fullAgain() {
        CHECK.says("the machine starts afresh as after a successful compile: no objects;");
        OwnerDominance x = Frozen.heapFull();
        for (int i = 0; i < 3; i++) {
            x.restart();
            for (int count = 1; count <= 4; count++) {
                CHECK.due("run(1)", x.run(1), OwnerDominance.ST_RUNNING);
                CHECK.due("getObjectCount()", x.getObjectCount(), count);
            }
            CHECK.due("run(1)", x.run(1), OwnerDominance.ST_HEAPFULL);
            CHECK.due("getObjectCount()", x.getObjectCount(), 4);
        }
    }

    /** In the second run the same ids are given anew, and nothing of the first run shows in them. */
    private static void runsAgain() {
        CHECK.says("one main frame with pc 0 and all locals null;");
        OwnerDominance x = new OwnerDominance(4);
        x.addClass(0);
        x.addField(0, 0);
        x.addStmt(8, OwnerDominance.OP_NEW, 0, 0);
        x.addStmt(8, OwnerDominance.OP_NEW, 1, 0);
        x.addStmt(8, OwnerDominance.OP_STORE, 0, 1);
        x.addStmt(8, OwnerDominance.OP_STORE, 1, 1);
        CHECK.due("compile(1)", x.compile(1), 0);
        CHECK.due("run(16)", x.run(16), OwnerDominance.ST_DONE);
        CHECK.due("field of 0", x.getObject(0, 4), 1);
        CHECK.due("restart()", x.restart(), true);
        CHECK.due("getObject(0, 0)", x.getObject(0, 0), -2);
        CHECK.due("run(2)", x.run(2), OwnerDominance.ST_RUNNING);
        CHECK.same("the machine", Snapshot.machine(x), "machine"
                + "\n object 0: 0 -1 -1 -1 -1 -1 -1 -1"
                + "\n object 1: 0 -1 -1 -1 -1 -1 -1 -1"
                + "\n frame 0: 8 2 -1 -1 0 1 -1 -1 -1 -1 -1 -1");
        CHECK.due("restart() in the middle", x.restart(), true);
        CHECK.same("the machine", Snapshot.machine(x), FRESH);
        CHECK.due("run(16)", x.run(16), OwnerDominance.ST_DONE);
    }

    private static void programStays() {
        CHECK.says("The program and the error location are not changed.");
        for (OwnerDominance x : Frozen.all()) {
            String program = Snapshot.program(x);
            x.restart();
            CHECK.same("the program", Snapshot.program(x), program);
            CHECK.due("addClass(0) after restart()", x.addClass(0), -1);
            CHECK.due("addStmt(8, 6, 0, 0) after restart()", x.addStmt(8, 6, 0, 0), -1);
            CHECK.due("compile(1) after restart()", x.compile(1), -1);
            CHECK.same("the program", Snapshot.program(x), program);
        }
    }

    private static void locationStays() {
        CHECK.says("and the error location are not changed.");
        OwnerDominance x = new OwnerDominance(8);
        x.addClass(0);
        x.setLocal(8, 0, -1);
        x.compile(1);
        x.restart();
        CHECK.due("getErrorAt() in ST_EDIT", x.getErrorAt(), 264);
        x.setLocal(8, 0, 0);
        x.compile(1);
        x.restart();
        CHECK.due("getErrorAt()", x.getErrorAt(), -1);
        for (OwnerDominance frozen : Frozen.all()) {
            frozen.restart();
            CHECK.due("getErrorAt()", frozen.getErrorAt(), -1);
        }
    }
}
