/** Promise 8: how many steps a run does, when it is refused, and when the machine is done. */
public final class Promise08RunTest {
    private static final Check CHECK = new Check();
    private static final int NULL = OwnerDominance.OP_NULL;
    private static final int MAIN = OwnerDominance.BODY_MAIN;
    private static final int RUNNING = OwnerDominance.ST_RUNNING;
    private static final int DONE = OwnerDominance.ST_DONE;
    private static final int[] NONE = {0, -1, -16, Integer.MIN_VALUE};

    public static void main(String[] args) {
        refusedInEdit();
        refusedWithoutSteps();
        refusedAfterAStop();
        emptyMain();
        mainAlone();
        atMostSixteen();
        CHECK.end();
    }

    private static void refusedInEdit() {
        OwnerDominance x = new OwnerDominance(8);
        x.addClass(0);
        x.addStmt(MAIN, NULL, 0, 0);
        String before = Snapshot.of(x);
        CHECK.due("run(1)", x.run(1), 0);
        CHECK.due("run(16)", x.run(16), 0);
        CHECK.due("run(0)", x.run(0), 0);
        CHECK.same("after refused calls", Snapshot.of(x), before);
    }

    private static void refusedWithoutSteps() {
        OwnerDominance running = Frozen.running();
        OwnerDominance empty = new OwnerDominance(8);
        empty.addClass(0);
        empty.compile(1);
        OwnerDominance[] objects = {running, empty};
        for (OwnerDominance x : objects) {
            String before = Snapshot.of(x);
            for (int steps : NONE) {
                CHECK.due("run(" + steps + ")", x.run(steps), RUNNING);
            }
            CHECK.same("after refused calls", Snapshot.of(x), before);
        }
    }

    private static void refusedAfterAStop() {
        for (OwnerDominance x : Frozen.all()) {
            int status = x.getStatus();
            if (status == RUNNING) {
                continue;
            }
            String before = Snapshot.of(x);
            int[] steps = {1, 16, 100, 0, -1};
            for (int count : steps) {
                CHECK.due("run(" + count + ")", x.run(count), status);
            }
            CHECK.same("after refused calls", Snapshot.of(x), before);
        }
    }

    private static void emptyMain() {
        int[] steps = {1, 2, 16, Integer.MAX_VALUE};
        for (int count : steps) {
            OwnerDominance x = new OwnerDominance(8);
            x.addClass(0);
            x.compile(1);
            CHECK.due("getStatus()", x.getStatus(), RUNNING);
            String before = Snapshot.machine(x);
            CHECK.due("run(" + count + ")", x.run(count), DONE);
            CHECK.same("the machine", Snapshot.machine(x), before);
        }
    }

    /** Main has from one to sixteen statements; every count of steps leaves its pc where it should. */
    private static void mainAlone() {
        for (int size = 1; size <= 16; size++) {
            for (int steps = 1; steps <= 20; steps++) {
                OwnerDominance x = new OwnerDominance(8);
                x.addClass(0);
                for (int i = 0; i < size; i++) {
                    x.addStmt(MAIN, NULL, 0, 0);
                }
                x.compile(1);
                int status = RUNNING;
                for (int pc = 0; pc < size;) {
                    pc = Math.min(pc + steps, size);
                    status = pc == size ? DONE : RUNNING;
                    CHECK.due("run(" + steps + ") of " + size, x.run(steps), status);
                    CHECK.due("pc", x.getFrame(0, 1), pc);
                }
                CHECK.due("getStatus()", x.getStatus(), DONE);
            }
        }
    }

    private static void atMostSixteen() {
        int[] steps = {15, 16, 17, 18, 100, Integer.MAX_VALUE};
        for (int count : steps) {
            OwnerDominance x = new OwnerDominance(8);
            x.addClass(0);
            for (int i = 0; i < 16; i++) {
                x.addStmt(0, NULL, 2, 0);
            }
            x.addStmt(MAIN, OwnerDominance.OP_NEW, 0, 0);
            x.addStmt(MAIN, OwnerDominance.OP_CALL, 1, 0);
            x.addStmt(MAIN, OwnerDominance.OP_CALL, 1, 0);
            x.compile(1);
            String what = "run(" + count + ")";
            int done = Math.min(count, 16);
            CHECK.due(what, x.run(count), RUNNING);
            CHECK.due("pc of m", x.getFrame(1, 1), done - 2);
            CHECK.due(what, x.run(count), RUNNING);
            CHECK.due("pc of main", x.getFrame(0, 1), 3);
            CHECK.due("pc of m", x.getFrame(1, 1), 2 * done - 20);
            CHECK.due(what, x.run(count), DONE);
            CHECK.due("getFrameCount()", x.getFrameCount(), 1);
        }
    }
}
