/** Promise 8: what each statement does to the heap and the frames, and how the machine stops. */
public final class Promise08StepTest {
    private static final Check CHECK = new Check();
    private static final int NEW = OwnerDominance.OP_NEW;
    private static final int MOVE = OwnerDominance.OP_MOVE;
    private static final int LOAD = OwnerDominance.OP_LOAD;
    private static final int STORE = OwnerDominance.OP_STORE;
    private static final int CALL = OwnerDominance.OP_CALL;
    private static final int NULL = OwnerDominance.OP_NULL;
    private static final int RETURN = OwnerDominance.OP_RETURN;
    private static final int MAIN = OwnerDominance.BODY_MAIN;
    private static final int RUNNING = OwnerDominance.ST_RUNNING;
    private static final int DONE = OwnerDominance.ST_DONE;

    public static void main(String[] args) {
        simpleStatements();
        ownersOfNewObjects();
        callAndReturn();
        endOfBodyReturnsNull();
        nullStops();
        depthStop();
        nullComesBeforeDepth();
        heapFullStop();
        CHECK.end();
    }

    private static void step(OwnerDominance x, int status, String machine) {
        CHECK.due("run(1)", x.run(1), status);
        CHECK.due("getStatus()", x.getStatus(), status);
        CHECK.same("the machine", Snapshot.machine(x), "machine\n " + machine);
    }

    /** The step stops the machine and changes nothing else. */
    private static void stops(OwnerDominance x, int status) {
        String program = Snapshot.program(x);
        String machine = Snapshot.machine(x);
        CHECK.due("run(16)", x.run(16), status);
        CHECK.same("the machine after the stop", Snapshot.machine(x), machine);
        CHECK.due("run(1) after the stop", x.run(1), status);
        CHECK.due("getStatus()", x.getStatus(), status);
        CHECK.same("the machine after one more run", Snapshot.machine(x), machine);
        CHECK.same("the program", Snapshot.program(x), program);
    }

    private static OwnerDominance compiled(OwnerDominance x) {
        CHECK.due("compile(1)", x.compile(1), 0);
        return x;
    }

    private static void simpleStatements() {
        OwnerDominance x = new OwnerDominance(8);
        x.addClass(0);
        for (int f = 0; f < 3; f++) {
            x.addField(0, 0);
        }
        x.addStmt(MAIN, NEW, 0, 0);
        x.addStmt(MAIN, MOVE, 3, 0);
        x.addStmt(MAIN, NEW, 7, 0);
        x.addStmt(MAIN, STORE, 3, 8 * 2 + 7);
        x.addStmt(MAIN, NULL, 7, -5);
        x.addStmt(MAIN, LOAD, 1, 8 * 2 + 0);
        x.addStmt(MAIN, STORE, 1, 8 * 1 + 1);
        x.addStmt(MAIN, LOAD, 0, 8 * 0 + 3);
        x.addStmt(MAIN, STORE, 3, 8 * 2 + 0);
        compiled(x);
        step(x, RUNNING, "object 0: 0 -1 -1 -1 -1 -1 -1 -1\n frame 0: 8 1 -1 -1 0 -1 -1 -1 -1 -1 -1 -1");
        step(x, RUNNING, "object 0: 0 -1 -1 -1 -1 -1 -1 -1\n frame 0: 8 2 -1 -1 0 -1 -1 0 -1 -1 -1 -1");
        String second = "\n object 1: 0 -1 -1 -1 -1 -1 -1 -1";
        step(x, RUNNING, "object 0: 0 -1 -1 -1 -1 -1 -1 -1" + second
                + "\n frame 0: 8 3 -1 -1 0 -1 -1 0 -1 -1 -1 1");
        String first = "object 0: 0 -1 -1 -1 -1 -1 1 -1";
        step(x, RUNNING, first + second + "\n frame 0: 8 4 -1 -1 0 -1 -1 0 -1 -1 -1 1");
        step(x, RUNNING, first + second + "\n frame 0: 8 5 -1 -1 0 -1 -1 0 -1 -1 -1 -1");
        step(x, RUNNING, first + second + "\n frame 0: 8 6 -1 -1 0 1 -1 0 -1 -1 -1 -1");
        second = "\n object 1: 0 -1 -1 -1 -1 1 -1 -1";
        step(x, RUNNING, first + second + "\n frame 0: 8 7 -1 -1 0 1 -1 0 -1 -1 -1 -1");
        step(x, RUNNING, first + second + "\n frame 0: 8 8 -1 -1 -1 1 -1 0 -1 -1 -1 -1");
        first = "object 0: 0 -1 -1 -1 -1 -1 -1 -1";
        step(x, DONE, first + second + "\n frame 0: 8 9 -1 -1 -1 1 -1 0 -1 -1 -1 -1");
        stops(x, DONE);
    }

    /** Objects 0 to 3 pass owners down; the body of class 0 then makes objects with every owner there is. */
    private static void ownersOfNewObjects() {
        OwnerDominance x = new OwnerDominance(32);
        x.addClass(2);
        x.addClass(0);
        int inner = Types.type(0, Types.REP, Types.OWNER, Types.REP);
        int top = Types.type(0, Types.WORLD, Types.WORLD, Types.WORLD);
        x.setSignature(0, 1, 1);
        x.setSignature(1, 1, 1);
        x.setLocal(1, 2, inner);
        x.setLocal(1, 3, 1);
        x.addStmt(1, NEW, 2, inner);
        x.addStmt(1, CALL, 3, 8 * 3 + 2);
        int[] owners = {Types.WORLD, Types.OWNER, Types.REP, Types.P1, Types.P2};
        for (int v = 2; v < 7; v++) {
            x.setLocal(0, v, Types.type(1, owners[v - 2]));
            x.addStmt(0, NEW, v, Types.type(1, owners[v - 2]));
        }
        int made = Types.type(0, Types.OWNER, Types.P2, Types.P1);
        x.setLocal(0, 7, made);
        x.addStmt(0, NEW, 7, made);
        for (int v = 0; v < 8; v++) {
            x.setLocal(MAIN, v, 1);
        }
        x.setLocal(MAIN, 6, top);
        x.addStmt(MAIN, NEW, 6, top);
        x.addStmt(MAIN, NEW, 0, 1);
        x.addStmt(MAIN, CALL, 1, 8 * 2 + 0);
        compiled(x);
        CHECK.due("run(11)", x.run(11), RUNNING);
        CHECK.same("the machine", Snapshot.machine(x), "machine"
                + "\n object 0: 0 -1 -1 -1 -1 -1 -1 -1"
                + "\n object 1: 1 -1 -1 -1 -1 -1 -1 -1"
                + "\n object 2: 0 1 -1 1 -1 -1 -1 -1"
                + "\n object 3: 1 -1 -1 -1 -1 -1 -1 -1"
                + "\n object 4: 1 1 -1 -1 -1 -1 -1 -1"
                + "\n object 5: 1 2 -1 -1 -1 -1 -1 -1"
                + "\n object 6: 1 -1 -1 -1 -1 -1 -1 -1"
                + "\n object 7: 1 1 -1 -1 -1 -1 -1 -1"
                + "\n object 8: 0 1 1 -1 -1 -1 -1 -1"
                + "\n frame 0: 8 3 -1 -1 1 -1 -1 -1 -1 -1 0 -1"
                + "\n frame 1: 1 2 1 1 1 -1 2 -1 -1 -1 -1 -1"
                + "\n frame 2: 0 6 2 3 2 -1 3 4 5 6 7 8");
    }

    private static void callAndReturn() {
        OwnerDominance x = new OwnerDominance(8);
        x.addClass(0);
        x.addClass(0);
        x.addStmt(0, RETURN, 1, 99);
        x.addStmt(0, NULL, 2, 0);
        x.setLocal(1, 2, 0);
        x.setLocal(1, 5, 1);
        x.addStmt(1, NEW, 2, 0);
        x.addStmt(1, CALL, 4, 8 * 2 + 1);
        x.addStmt(1, RETURN, 4, 0);
        x.setLocal(MAIN, 6, 1);
        x.addStmt(MAIN, NEW, 6, 1);
        x.addStmt(MAIN, NEW, 3, 0);
        x.addStmt(MAIN, CALL, 7, 8 * 3 + 6);
        compiled(x);
        CHECK.due("run(2)", x.run(2), RUNNING);
        String heap = "object 0: 1 -1 -1 -1 -1 -1 -1 -1\n object 1: 0 -1 -1 -1 -1 -1 -1 -1";
        step(x, RUNNING, heap + "\n frame 0: 8 3 -1 -1 -1 -1 -1 1 -1 -1 0 -1"
                + "\n frame 1: 1 0 0 7 0 1 -1 -1 -1 -1 -1 -1");
        heap += "\n object 2: 0 -1 -1 -1 -1 -1 -1 -1";
        step(x, RUNNING, heap + "\n frame 0: 8 3 -1 -1 -1 -1 -1 1 -1 -1 0 -1"
                + "\n frame 1: 1 1 0 7 0 1 2 -1 -1 -1 -1 -1");
        step(x, RUNNING, heap + "\n frame 0: 8 3 -1 -1 -1 -1 -1 1 -1 -1 0 -1"
                + "\n frame 1: 1 2 0 7 0 1 2 -1 -1 -1 -1 -1"
                + "\n frame 2: 0 0 1 4 1 2 -1 -1 -1 -1 -1 -1");
        step(x, RUNNING, heap + "\n frame 0: 8 3 -1 -1 -1 -1 -1 1 -1 -1 0 -1"
                + "\n frame 1: 1 2 0 7 0 1 2 -1 2 -1 -1 -1");
        step(x, DONE, heap + "\n frame 0: 8 3 -1 -1 -1 -1 -1 1 -1 -1 0 2");
        stops(x, DONE);
    }

    /** The second call finds locals of the first one's frame, which must not be seen. */
    private static void endOfBodyReturnsNull() {
        OwnerDominance x = new OwnerDominance(8);
        x.addClass(0);
        x.addClass(0);
        x.addStmt(0, MOVE, 5, 1);
        x.setLocal(MAIN, 4, 1);
        x.addStmt(MAIN, NEW, 0, 0);
        x.addStmt(MAIN, MOVE, 1, 0);
        x.addStmt(MAIN, CALL, 1, 8 * 0 + 0);
        x.addStmt(MAIN, NEW, 4, 1);
        x.addStmt(MAIN, MOVE, 1, 0);
        x.addStmt(MAIN, CALL, 1, 8 * 2 + 4);
        compiled(x);
        CHECK.due("run(4)", x.run(4), RUNNING);
        String heap = "object 0: 0 -1 -1 -1 -1 -1 -1 -1";
        CHECK.same("before the end", Snapshot.machine(x), "machine\n " + heap
                + "\n frame 0: 8 3 -1 -1 0 0 -1 -1 -1 -1 -1 -1"
                + "\n frame 1: 0 1 0 1 0 0 -1 -1 -1 0 -1 -1");
        step(x, RUNNING, heap + "\n frame 0: 8 3 -1 -1 0 -1 -1 -1 -1 -1 -1 -1");
        CHECK.due("run(3)", x.run(3), RUNNING);
        heap += "\n object 1: 1 -1 -1 -1 -1 -1 -1 -1";
        CHECK.same("in an empty body", Snapshot.machine(x), "machine\n " + heap
                + "\n frame 0: 8 6 -1 -1 0 0 -1 -1 1 -1 -1 -1"
                + "\n frame 1: 1 0 1 1 1 -1 -1 -1 -1 -1 -1 -1");
        step(x, DONE, heap + "\n frame 0: 8 6 -1 -1 0 -1 -1 -1 1 -1 -1 -1");
    }

    private static void nullStops() {
        int[][] stmts = {{LOAD, 0, 8 * 1 + 5}, {STORE, 5, 8 * 1 + 0}, {CALL, 0, 8 * 0 + 5}};
        for (int[] stmt : stmts) {
            OwnerDominance x = new OwnerDominance(8);
            x.addClass(0);
            x.addField(0, 0);
            x.addField(0, 0);
            x.addStmt(MAIN, NEW, 0, 0);
            x.addStmt(MAIN, stmt[0], stmt[1], stmt[2]);
            x.addStmt(MAIN, NULL, 0, 0);
            compiled(x);
            CHECK.due("run(1)", x.run(1), RUNNING);
            stops(x, OwnerDominance.ST_NULL);
        }
        OwnerDominance x = new OwnerDominance(8);
        x.addClass(0);
        x.addField(0, 0);
        x.addStmt(MAIN, NEW, 0, 0);
        x.addStmt(MAIN, STORE, 0, 0);
        x.addStmt(MAIN, STORE, 0, 1);
        x.addStmt(MAIN, CALL, 2, 8 * 1 + 0);
        compiled(x);
        CHECK.due("storing and passing null", x.run(16), DONE);
        CHECK.due("field 0", x.getObject(0, 4), -1);
    }

    /** m calls itself. */
    private static void depthStop() {
        OwnerDominance x = new OwnerDominance(8);
        int own = Types.type(0, Types.OWNER);
        x.addClass(0);
        x.addField(0, own);
        x.setSignature(0, own, own);
        for (int v = 2; v < 8; v++) {
            x.setLocal(0, v, own);
        }
        x.addStmt(0, CALL, 2, 8 * 0 + 0);
        x.addStmt(0, RETURN, 2, 0);
        x.addStmt(MAIN, NEW, 0, 0);
        x.addStmt(MAIN, CALL, 1, 8 * 0 + 0);
        compiled(x);
        CHECK.due("run(8)", x.run(8), RUNNING);
        CHECK.due("getFrameCount()", x.getFrameCount(), 8);
        CHECK.due("pc of frame 6", x.getFrame(6, 1), 1);
        CHECK.due("pc of frame 7", x.getFrame(7, 1), 0);
        stops(x, OwnerDominance.ST_DEPTH);
    }

    /** Seven objects in a chain, each calling the next one; the last has none to call, in the eighth frame. */
    private static void nullComesBeforeDepth() {
        OwnerDominance x = new OwnerDominance(8);
        int own = Types.type(0, Types.OWNER);
        x.addClass(0);
        x.addField(0, own);
        x.setSignature(0, own, own);
        x.setLocal(0, 2, own);
        x.addStmt(0, LOAD, 2, 8 * 0 + 0);
        x.setLocal(0, 3, own);
        x.addStmt(0, CALL, 3, 8 * 2 + 2);
        for (int v = 0; v < 7; v++) {
            x.addStmt(MAIN, NEW, v, 0);
        }
        for (int v = 0; v < 6; v++) {
            x.addStmt(MAIN, STORE, v, v + 1);
        }
        x.addStmt(MAIN, CALL, 7, 8 * 7 + 0);
        compiled(x);
        CHECK.due("run(14)", x.run(14), RUNNING);
        CHECK.due("run(13)", x.run(13), RUNNING);
        CHECK.due("getFrameCount()", x.getFrameCount(), 8);
        stops(x, OwnerDominance.ST_NULL);
    }

    private static void heapFullStop() {
        for (int capacity = 4; capacity <= 6; capacity++) {
            OwnerDominance x = new OwnerDominance(capacity);
            x.addClass(0);
            for (int i = 0; i < 8; i++) {
                x.addStmt(MAIN, NEW, 7 - i, 0);
            }
            compiled(x);
            CHECK.due("run", x.run(capacity), RUNNING);
            CHECK.due("getObjectCount()", x.getObjectCount(), capacity);
            stops(x, OwnerDominance.ST_HEAPFULL);
        }
        OwnerDominance x = new OwnerDominance(4);
        x.addClass(0);
        for (int i = 0; i < 4; i++) {
            x.addStmt(MAIN, NEW, i, 0);
        }
        compiled(x);
        CHECK.due("a heap that is just full", x.run(16), DONE);
    }
}
