/** Promise 8: how many steps a run does, when it is refused, and when the machine is done. */
public final class Promise08RunTest {
    private static final Check CHECK = new Check();
    private static final int NULL = OwnerDominance.OP_NULL;
    private static final int MAIN = OwnerDominance.BODY_MAIN;
    private static final int RUNNING = OwnerDominance.ST_RUNNING;
    private static final int DONE = OwnerDominance.ST_DONE;
    private static final String REFUSED =
            "`run(steps)` is refused, answering the status and changing nothing, if any of these holds: .. ";

    public static void main(String[] args) {
        refusedInEdit();
        refusedAfterAStop();
        refusedWithoutSteps();
        emptyMain();
        mainAlone();
        atMostSixteen();
        exactlySixteen();
        stopsAtOnce();
        doneAfterAStep();
        notFinishedInACall();
        stoppedStaysReadable();
        CHECK.end();
    }

    private static void refusedInEdit() {
        CHECK.says(REFUSED + "status != ST_RUNNING");
        OwnerDominance x = new OwnerDominance(8);
        x.addClass(0);
        x.addStmt(MAIN, NULL, 0, 0);
        for (int i = 0; i < 2; i++) {
            String before = Snapshot.of(x);
            CHECK.due("run(1)", x.run(1), 0);
            CHECK.due("run(16)", x.run(16), 0);
            for (int steps : Ints.notIn(1, 16)) {
                CHECK.due("run(" + steps + ")", x.run(steps), 0);
            }
            CHECK.same("after refused calls", Snapshot.of(x), before);
            x.setLocal(MAIN, 0, -1);
            x.compile(1);
        }
    }

    private static void refusedAfterAStop() {
        CHECK.says("`run(steps)` is refused, answering the status .. After the machine stops");
        for (OwnerDominance x : Frozen.all()) {
            int status = x.getStatus();
            if (status == RUNNING) {
                continue;
            }
            String before = Snapshot.of(x);
            for (int steps = -1; steps <= 17; steps++) {
                CHECK.due("run(" + steps + ")", x.run(steps), status);
            }
            CHECK.due("run(MAX)", x.run(Integer.MAX_VALUE), status);
            CHECK.due("run(MIN)", x.run(Integer.MIN_VALUE), status);
            CHECK.same("after refused calls", Snapshot.of(x), before);
        }
    }

    private static void refusedWithoutSteps() {
        CHECK.says(REFUSED + "steps < 1");
        OwnerDominance empty = new OwnerDominance(8);
        empty.addClass(0);
        empty.compile(1);
        OwnerDominance[] objects = {Frozen.running(), empty};
        int[] none = {0, -1, -2, -15, -16, -17, -65536, Integer.MIN_VALUE, Integer.MIN_VALUE + 1};
        for (OwnerDominance x : objects) {
            String before = Snapshot.of(x);
            for (int steps : none) {
                CHECK.due("run(" + steps + ")", x.run(steps), RUNNING);
            }
            CHECK.same("after refused calls", Snapshot.of(x), before);
            CHECK.due("run(1)", x.run(1), DONE);
        }
    }

    private static void emptyMain() {
        CHECK.says("If FINISHED, the status becomes ST_DONE.");
        int[] steps = {1, 2, 15, 16, 17, Integer.MAX_VALUE};
        for (int count : steps) {
            OwnerDominance x = new OwnerDominance(8);
            x.addClass(0);
            x.addStmt(0, NULL, 1, 0);
            x.compile(1);
            CHECK.due("getStatus()", x.getStatus(), RUNNING);
            String before = Snapshot.machine(x);
            CHECK.due("run(" + count + ")", x.run(count), DONE);
            CHECK.same("the machine", Snapshot.machine(x), before);
        }
    }

    /** Main has from one to sixteen statements; every count of steps leaves its pc where it should. */
    private static void mainAlone() {
        CHECK.says("Otherwise it performs up to min(steps, 16) STEPs");
        for (int size = 1; size <= 16; size++) {
            for (int steps = 1; steps <= 20; steps++) {
                OwnerDominance x = new OwnerDominance(8);
                x.addClass(0);
                for (int i = 0; i < size; i++) {
                    x.addStmt(MAIN, NULL, 0, 0);
                }
                x.compile(1);
                int status = RUNNING;
                for (int pc = 0; pc < size;) {
                    pc = Math.min(pc + steps, size);
                    status = pc == size ? DONE : RUNNING;
                    CHECK.due("run(" + steps + ") of " + size, x.run(steps), status);
                    CHECK.due("pc", x.getFrame(0, 1), pc);
                }
                CHECK.due("getStatus()", x.getStatus(), DONE);
            }
        }
    }

    private static void atMostSixteen() {
        CHECK.says("Otherwise it performs up to min(steps, 16) STEPs, stopping as soon as");
        int[] steps = {15, 16, 17, 18, 100, Integer.MAX_VALUE};
        for (int count : steps) {
            OwnerDominance x = new OwnerDominance(8);
            x.addClass(0);
            for (int i = 0; i < 16; i++) {
                x.addStmt(0, NULL, 2, 0);
            }
            x.addStmt(MAIN, OwnerDominance.OP_NEW, 0, 0);
            x.addStmt(MAIN, OwnerDominance.OP_CALL, 1, 0);
            x.addStmt(MAIN, OwnerDominance.OP_CALL, 1, 0);
            x.compile(1);
            String what = "run(" + count + ")";
            int done = Math.min(count, 16);
            CHECK.due(what, x.run(count), RUNNING);
            CHECK.due("pc of m", x.getFrame(1, 1), done - 2);
            CHECK.due(what, x.run(count), RUNNING);
            CHECK.due("pc of main", x.getFrame(0, 1), 3);
            CHECK.due("pc of m", x.getFrame(1, 1), 2 * done - 20);
            CHECK.due(what, x.run(count), DONE);
            CHECK.due("getFrameCount()", x.getFrameCount(), 1);
        }
    }

    /** One call makes m's sixteen statements and its end seventeen steps more: a run never gets so far. */
    private static void exactlySixteen() {
        CHECK.says("min(steps, 16)");
        int[] steps = {1, 2, 3, 8, 14, 15, 16, 17, 18, 31, 32, 33, 256, 65537, 0x10000001, Integer.MAX_VALUE};
        for (int count : steps) {
            OwnerDominance x = new OwnerDominance(8);
            x.addClass(0);
            for (int i = 0; i < 16; i++) {
                x.addStmt(0, NULL, 2, 0);
            }
            x.addStmt(MAIN, OwnerDominance.OP_NEW, 0, 0);
            x.addStmt(MAIN, OwnerDominance.OP_CALL, 1, 0);
            x.compile(1);
            x.run(2);
            CHECK.due("run(" + count + ")", x.run(count), RUNNING);
            CHECK.due("pc of m", x.getFrame(1, 1), Math.min(count, 16));
        }
    }

    /** The statement after the one that stops the machine would show in v7. */
    private static void stopsAtOnce() {
        CHECK.says("stopping as soon as the status is no longer ST_RUNNING.");
        int[][] stops = {
            {OwnerDominance.OP_LOAD, 2, 1, OwnerDominance.ST_NULL},
            {OwnerDominance.OP_STORE, 1, 2, OwnerDominance.ST_NULL},
            {OwnerDominance.OP_CALL, 2, 1, OwnerDominance.ST_NULL},
            {OwnerDominance.OP_CALL, 2, 3, OwnerDominance.ST_DEPTH},
            {OwnerDominance.OP_CALL, 2, 4, OwnerDominance.ST_VIOLATION},
            {OwnerDominance.OP_CALL, 2, 5, OwnerDominance.ST_HEAPFULL}};
        for (int[] stop : stops) {
            OwnerDominance x = new OwnerDominance(stop[3] == OwnerDominance.ST_HEAPFULL ? 4 : 8);
            for (int c = 0; c < 4; c++) {
                x.addClass(0);
                x.addField(c, 0);
            }
            // m of class 1 calls itself, m of class 2 gives away what it owns, m of class 3 makes one more object.
            x.setSignature(1, 0, 0);
            x.addStmt(1, OwnerDominance.OP_CALL, 2, 8 * 1 + 0);
            x.addStmt(2, OwnerDominance.OP_NEW, 2, Types.type(0, Types.REP));
            x.addStmt(2, OwnerDominance.OP_RETURN, 2, 0);
            x.addStmt(3, OwnerDominance.OP_NEW, 2, 0);
            int[] classes = {0, 1, 2, 3};
            int[] locals = {0, 3, 4, 5};
            for (int i = 0; i < 4; i++) {
                x.setLocal(MAIN, locals[i], classes[i]);
                x.addStmt(MAIN, OwnerDominance.OP_NEW, locals[i], classes[i]);
            }
            x.addStmt(MAIN, stop[0], stop[1], stop[2]);
            x.addStmt(MAIN, OwnerDominance.OP_MOVE, 7, 0);
            CHECK.due("compile(0)", x.compile(0), 0);
            CHECK.due("run(16)", x.run(16), stop[3]);
            CHECK.due("v7 of main", x.getFrame(0, 11), -1);
            CHECK.due("run(16) again", x.run(16), stop[3]);
            CHECK.due("v7 of main", x.getFrame(0, 11), -1);
        }
    }

    private static void doneAfterAStep() {
        CHECK.says("After each step that leaves the status at ST_RUNNING, if FINISHED, the status becomes ST_DONE"
                + " and running stops.");
        for (int size = 1; size <= 16; size++) {
            OwnerDominance x = new OwnerDominance(8);
            x.addClass(0);
            for (int i = 0; i < size; i++) {
                x.addStmt(MAIN, NULL, 0, 0);
            }
            x.compile(1);
            for (int i = 1; i <= size; i++) {
                CHECK.due("run(1), step " + i + " of " + size, x.run(1), i < size ? RUNNING : DONE);
            }
            CHECK.due("pc", x.getFrame(0, 1), size);
            x.restart();
            CHECK.due("run(" + size + ")", x.run(size), DONE);
        }
    }

    /** Main's last statement is the call: its pc stands at the end while m still runs. */
    private static void notFinishedInACall() {
        CHECK.says("**FINISHED** means there is exactly one frame and main's pc >= main's statement count.");
        for (int size = 0; size <= 3; size++) {
            OwnerDominance x = new OwnerDominance(8);
            x.addClass(0);
            for (int i = 0; i < size; i++) {
                x.addStmt(0, NULL, 2, 0);
            }
            x.addStmt(MAIN, OwnerDominance.OP_NEW, 0, 0);
            x.addStmt(MAIN, OwnerDominance.OP_CALL, 1, 0);
            x.compile(1);
            CHECK.due("run(1)", x.run(1), RUNNING);
            for (int i = 0; i <= size; i++) {
                CHECK.due("run(1) in m", x.run(1), RUNNING);
                CHECK.due("pc of main", x.getFrame(0, 1), 2);
                CHECK.due("getFrameCount()", x.getFrameCount(), 2);
            }
            CHECK.due("run(1) at the end of m", x.run(1), DONE);
            CHECK.due("getFrameCount()", x.getFrameCount(), 1);
        }
    }

    private static void stoppedStaysReadable() {
        CHECK.says("After the machine stops with ST_DONE, ST_NULL, ST_DEPTH, ST_HEAPFULL or ST_VIOLATION,"
                + " its objects and frames stay as they were and remain readable.");
        String[] due = {
            "\n object 0: 0 -1 -1 -1 -1 -1 -1 -1\n frame 0: 8 1 -1 -1 -1 -1 -1 0 -1 -1 -1 -1",
            "\n object 0: 0 -1 -1 -1 -1 -1 -1 -1\n frame 0: 8 1 -1 -1 -1 -1 0 -1 -1 -1 -1 -1",
            "\n object 0: 0 -1 -1 -1 -1 -1 -1 -1\n frame 0: 8 2 -1 -1 0 -1 -1 -1 -1 -1 -1 -1"
                + "\n frame 1: 0 1 0 1 0 0 -1 -1 -1 -1 -1 -1" + "\n frame 2: 0 1 0 2 0 0 -1 -1 -1 -1 -1 -1"
                + "\n frame 3: 0 1 0 2 0 0 -1 -1 -1 -1 -1 -1" + "\n frame 4: 0 1 0 2 0 0 -1 -1 -1 -1 -1 -1"
                + "\n frame 5: 0 1 0 2 0 0 -1 -1 -1 -1 -1 -1" + "\n frame 6: 0 1 0 2 0 0 -1 -1 -1 -1 -1 -1"
                + "\n frame 7: 0 0 0 2 0 0 -1 -1 -1 -1 -1 -1",
            "\n object 0: 0 -1 -1 -1 -1 -1 -1 -1\n object 1: 0 -1 -1 -1 -1 -1 -1 -1"
                + "\n object 2: 0 -1 -1 -1 -1 -1 -1 -1\n object 3: 0 -1 -1 -1 -1 -1 -1 -1"
                + "\n frame 0: 8 4 -1 -1 0 1 2 3 -1 -1 -1 -1",
            "\n object 0: 0 -1 -1 -1 -1 -1 -1 -1\n object 1: 0 0 -1 -1 -1 -1 -1 -1"
                + "\n frame 0: 8 2 -1 -1 0 1 -1 -1 -1 -1 -1 -1"};
        for (int status = DONE; status <= OwnerDominance.ST_VIOLATION; status++) {
            OwnerDominance x = Frozen.all().get(status - 1);
            for (int i = 0; i < 3; i++) {
                CHECK.due("getStatus()", x.getStatus(), status);
                CHECK.same("the machine in status " + status, Snapshot.machine(x), "machine" + due[status - DONE]);
                x.run(16);
            }
        }
    }
}
