/** Promise 8: what each statement does to the heap and the frames, and how the machine stops. */
public final class Promise08StepTest {
    private static final Check CHECK = new Check();
    private static final int NEW = OwnerDominance.OP_NEW;
    private static final int MOVE = OwnerDominance.OP_MOVE;
    private static final int LOAD = OwnerDominance.OP_LOAD;
    private static final int STORE = OwnerDominance.OP_STORE;
    private static final int CALL = OwnerDominance.OP_CALL;
    private static final int NULL = OwnerDominance.OP_NULL;
    private static final int RETURN = OwnerDominance.OP_RETURN;
    private static final int MAIN = OwnerDominance.BODY_MAIN;
    private static final int RUNNING = OwnerDominance.ST_RUNNING;
    private static final int DONE = OwnerDominance.ST_DONE;

    public static void main(String[] args) {
        simpleStatements();
        ownersOfNewObjects();
        callAndReturn();
        endOfBodyReturnsNull();
        endOfAnyBody();
        everyReturnVariable();
        nullLoad();
        nullStore();
        nullCall();
        nullIsAValue();
        eightFrames();
        depthStop();
        nullComesBeforeDepth();
        heapFullStop();
        stopsInAMethod();
        absentFieldsStayNull();
        unusedOwners();
        objectsAreNeverFreed();
        CHECK.end();
    }

    private static void step(OwnerDominance x, int status, String machine) {
        CHECK.due("run(1)", x.run(1), status);
        CHECK.due("getStatus()", x.getStatus(), status);
        CHECK.same("the machine", Snapshot.machine(x), "machine\n " + machine);
    }

    /** The step stops the machine and changes nothing else. */
    private static void stops(OwnerDominance x, int status) {
        String program = Snapshot.program(x);
        String machine = Snapshot.machine(x);
        CHECK.due("run(16)", x.run(16), status);
        CHECK.same("the machine after the stop", Snapshot.machine(x), machine);
        CHECK.due("run(1) after the stop", x.run(1), status);
        CHECK.due("getStatus()", x.getStatus(), status);
        CHECK.same("the machine after one more run", Snapshot.machine(x), machine);
        CHECK.same("the program", Snapshot.program(x), program);
    }

    private static OwnerDominance compiled(OwnerDominance x) {
        CHECK.due("compile(1)", x.compile(1), 0);
        return x;
    }

    private static void simpleStatements() {
        CHECK.says("MOVE: va = vb; pc++. NULL: va = -1; pc++.");
        OwnerDominance x = new OwnerDominance(8);
        x.addClass(0);
        for (int f = 0; f < 3; f++) {
            x.addField(0, 0);
        }
        x.addStmt(MAIN, NEW, 0, 0);
        x.addStmt(MAIN, MOVE, 3, 0);
        x.addStmt(MAIN, NEW, 7, 0);
        x.addStmt(MAIN, STORE, 3, 8 * 2 + 7);
        x.addStmt(MAIN, NULL, 7, -5);
        x.addStmt(MAIN, LOAD, 1, 8 * 2 + 0);
        x.addStmt(MAIN, STORE, 1, 8 * 1 + 1);
        x.addStmt(MAIN, LOAD, 0, 8 * 0 + 3);
        x.addStmt(MAIN, STORE, 3, 8 * 2 + 0);
        compiled(x);
        step(x, RUNNING, "object 0: 0 -1 -1 -1 -1 -1 -1 -1\n frame 0: 8 1 -1 -1 0 -1 -1 -1 -1 -1 -1 -1");
        step(x, RUNNING, "object 0: 0 -1 -1 -1 -1 -1 -1 -1\n frame 0: 8 2 -1 -1 0 -1 -1 0 -1 -1 -1 -1");
        String second = "\n object 1: 0 -1 -1 -1 -1 -1 -1 -1";
        step(x, RUNNING, "object 0: 0 -1 -1 -1 -1 -1 -1 -1" + second
                + "\n frame 0: 8 3 -1 -1 0 -1 -1 0 -1 -1 -1 1");
        String first = "object 0: 0 -1 -1 -1 -1 -1 1 -1";
        step(x, RUNNING, first + second + "\n frame 0: 8 4 -1 -1 0 -1 -1 0 -1 -1 -1 1");
        step(x, RUNNING, first + second + "\n frame 0: 8 5 -1 -1 0 -1 -1 0 -1 -1 -1 -1");
        step(x, RUNNING, first + second + "\n frame 0: 8 6 -1 -1 0 1 -1 0 -1 -1 -1 -1");
        second = "\n object 1: 0 -1 -1 -1 -1 1 -1 -1";
        step(x, RUNNING, first + second + "\n frame 0: 8 7 -1 -1 0 1 -1 0 -1 -1 -1 -1");
        step(x, RUNNING, first + second + "\n frame 0: 8 8 -1 -1 -1 1 -1 0 -1 -1 -1 -1");
        first = "object 0: 0 -1 -1 -1 -1 -1 -1 -1";
        step(x, DONE, first + second + "\n frame 0: 8 9 -1 -1 -1 1 -1 0 -1 -1 -1 -1");
        stops(x, DONE);
    }

    /** Objects 0 to 3 pass owners down; the body of class 0 then makes objects with every owner there is. */
    private static void ownersOfNewObjects() {
        CHECK.says("Otherwise a new object with id count is created. It has class cls(b), Wi = val(oi) of b for the"
                + " used slots, -1 for the others, and all fields null. Then va = its id and pc++.");
        OwnerDominance x = new OwnerDominance(32);
        x.addClass(2);
        x.addClass(0);
        int inner = Types.type(0, Types.REP, Types.OWNER, Types.REP);
        int top = Types.type(0, Types.WORLD, Types.WORLD, Types.WORLD);
        x.setSignature(0, 1, 1);
        x.setSignature(1, 1, 1);
        x.setLocal(1, 2, inner);
        x.setLocal(1, 3, 1);
        x.addStmt(1, NEW, 2, inner);
        x.addStmt(1, CALL, 3, 8 * 3 + 2);
        int[] owners = {Types.WORLD, Types.OWNER, Types.REP, Types.P1, Types.P2};
        for (int v = 2; v < 7; v++) {
            x.setLocal(0, v, Types.type(1, owners[v - 2]));
            x.addStmt(0, NEW, v, Types.type(1, owners[v - 2]));
        }
        int made = Types.type(0, Types.OWNER, Types.P2, Types.P1);
        x.setLocal(0, 7, made);
        x.addStmt(0, NEW, 7, made);
        for (int v = 0; v < 8; v++) {
            x.setLocal(MAIN, v, 1);
        }
        x.setLocal(MAIN, 6, top);
        x.addStmt(MAIN, NEW, 6, top);
        x.addStmt(MAIN, NEW, 0, 1);
        x.addStmt(MAIN, CALL, 1, 8 * 2 + 0);
        compiled(x);
        CHECK.due("run(11)", x.run(11), RUNNING);
        CHECK.same("the machine", Snapshot.machine(x), "machine"
                + "\n object 0: 0 -1 -1 -1 -1 -1 -1 -1"
                + "\n object 1: 1 -1 -1 -1 -1 -1 -1 -1"
                + "\n object 2: 0 1 -1 1 -1 -1 -1 -1"
                + "\n object 3: 1 -1 -1 -1 -1 -1 -1 -1"
                + "\n object 4: 1 1 -1 -1 -1 -1 -1 -1"
                + "\n object 5: 1 2 -1 -1 -1 -1 -1 -1"
                + "\n object 6: 1 -1 -1 -1 -1 -1 -1 -1"
                + "\n object 7: 1 1 -1 -1 -1 -1 -1 -1"
                + "\n object 8: 0 1 1 -1 -1 -1 -1 -1"
                + "\n frame 0: 8 3 -1 -1 1 -1 -1 -1 -1 -1 0 -1"
                + "\n frame 1: 1 2 1 1 1 -1 2 -1 -1 -1 -1 -1"
                + "\n frame 2: 0 6 2 3 2 -1 3 4 5 6 7 8");
    }

    private static void callAndReturn() {
        CHECK.says("RETURN: value = va; the top frame is popped; the caller's local named by the popped frame's return"
                + " variable gets value.");
        OwnerDominance x = new OwnerDominance(8);
        x.addClass(0);
        x.addClass(0);
        x.addStmt(0, RETURN, 1, 99);
        x.addStmt(0, NULL, 2, 0);
        x.setLocal(1, 2, 0);
        x.setLocal(1, 5, 1);
        x.addStmt(1, NEW, 2, 0);
        x.addStmt(1, CALL, 4, 8 * 2 + 1);
        x.addStmt(1, RETURN, 4, 0);
        x.setLocal(MAIN, 6, 1);
        x.addStmt(MAIN, NEW, 6, 1);
        x.addStmt(MAIN, NEW, 3, 0);
        x.addStmt(MAIN, CALL, 7, 8 * 3 + 6);
        compiled(x);
        CHECK.due("run(2)", x.run(2), RUNNING);
        String heap = "object 0: 1 -1 -1 -1 -1 -1 -1 -1\n object 1: 0 -1 -1 -1 -1 -1 -1 -1";
        step(x, RUNNING, heap + "\n frame 0: 8 3 -1 -1 -1 -1 -1 1 -1 -1 0 -1"
                + "\n frame 1: 1 0 0 7 0 1 -1 -1 -1 -1 -1 -1");
        heap += "\n object 2: 0 -1 -1 -1 -1 -1 -1 -1";
        step(x, RUNNING, heap + "\n frame 0: 8 3 -1 -1 -1 -1 -1 1 -1 -1 0 -1"
                + "\n frame 1: 1 1 0 7 0 1 2 -1 -1 -1 -1 -1");
        step(x, RUNNING, heap + "\n frame 0: 8 3 -1 -1 -1 -1 -1 1 -1 -1 0 -1"
                + "\n frame 1: 1 2 0 7 0 1 2 -1 -1 -1 -1 -1"
                + "\n frame 2: 0 0 1 4 1 2 -1 -1 -1 -1 -1 -1");
        step(x, RUNNING, heap + "\n frame 0: 8 3 -1 -1 -1 -1 -1 1 -1 -1 0 -1"
                + "\n frame 1: 1 2 0 7 0 1 2 -1 2 -1 -1 -1");
        step(x, DONE, heap + "\n frame 0: 8 3 -1 -1 -1 -1 -1 1 -1 -1 0 2");
        stops(x, DONE);
    }

    /** The second call finds locals of the first one's frame, which must not be seen. */
    private static void endOfBodyReturnsNull() {
        CHECK.says("A class body with pc >= its statement count acts as RETURN of null.");
        OwnerDominance x = new OwnerDominance(8);
        x.addClass(0);
        x.addClass(0);
        x.addStmt(0, MOVE, 5, 1);
        x.setLocal(MAIN, 4, 1);
        x.addStmt(MAIN, NEW, 0, 0);
        x.addStmt(MAIN, MOVE, 1, 0);
        x.addStmt(MAIN, CALL, 1, 8 * 0 + 0);
        x.addStmt(MAIN, NEW, 4, 1);
        x.addStmt(MAIN, MOVE, 1, 0);
        x.addStmt(MAIN, CALL, 1, 8 * 2 + 4);
        compiled(x);
        CHECK.due("run(4)", x.run(4), RUNNING);
        String heap = "object 0: 0 -1 -1 -1 -1 -1 -1 -1";
        CHECK.same("before the end", Snapshot.machine(x), "machine\n " + heap
                + "\n frame 0: 8 3 -1 -1 0 0 -1 -1 -1 -1 -1 -1"
                + "\n frame 1: 0 1 0 1 0 0 -1 -1 -1 0 -1 -1");
        step(x, RUNNING, heap + "\n frame 0: 8 3 -1 -1 0 -1 -1 -1 -1 -1 -1 -1");
        CHECK.due("run(3)", x.run(3), RUNNING);
        heap += "\n object 1: 1 -1 -1 -1 -1 -1 -1 -1";
        CHECK.same("in an empty body", Snapshot.machine(x), "machine\n " + heap
                + "\n frame 0: 8 6 -1 -1 0 0 -1 -1 1 -1 -1 -1"
                + "\n frame 1: 1 0 1 1 1 -1 -1 -1 -1 -1 -1 -1");
        step(x, DONE, heap + "\n frame 0: 8 6 -1 -1 0 -1 -1 -1 1 -1 -1 -1");
    }

    private static void nullLoad() {
        CHECK.says("LOAD: if vy is null, the status becomes ST_NULL.");
        for (int y = 1; y < 8; y++) {
            for (int q = 0; q < 4; q++) {
                nullStop(LOAD, 0, 8 * q + y);
                nullStop(LOAD, y, 8 * q + y);
            }
        }
    }

    private static void nullStore() {
        CHECK.says("STORE: if va is null, the status becomes ST_NULL.");
        for (int a = 1; a < 8; a++) {
            for (int q = 0; q < 4; q++) {
                nullStop(STORE, a, 8 * q);
                nullStop(STORE, a, 8 * q + a);
            }
        }
    }

    private static void nullCall() {
        CHECK.says("CALL: if vy is null, the status becomes ST_NULL.");
        for (int y = 1; y < 8; y++) {
            nullStop(CALL, 0, y);
            nullStop(CALL, y, 8 * y + y);
        }
    }

    /** All of main's variables but v0 are null, and the next statement would change v0. */
    private static void nullStop(int op, int a, int b) {
        OwnerDominance x = new OwnerDominance(8);
        x.addClass(0);
        for (int f = 0; f < 4; f++) {
            x.addField(0, 0);
        }
        x.addStmt(MAIN, NEW, 0, 0);
        x.addStmt(MAIN, op, a, b);
        x.addStmt(MAIN, NULL, 0, 0);
        compiled(x);
        CHECK.due("run(1)", x.run(1), RUNNING);
        stops(x, OwnerDominance.ST_NULL);
    }

    private static void nullIsAValue() {
        CHECK.says("Otherwise field q of object va = vy; pc++.");
        OwnerDominance x = new OwnerDominance(8);
        x.addClass(0);
        x.addField(0, 0);
        x.addStmt(MAIN, NEW, 0, 0);
        x.addStmt(MAIN, STORE, 0, 0);
        x.addStmt(MAIN, LOAD, 3, 0);
        x.addStmt(MAIN, STORE, 0, 1);
        x.addStmt(MAIN, LOAD, 4, 0);
        x.addStmt(MAIN, CALL, 2, 8 * 1 + 0);
        x.addStmt(MAIN, MOVE, 3, 1);
        compiled(x);
        CHECK.due("run(3)", x.run(3), RUNNING);
        CHECK.due("field 0 is the object itself", x.getObject(0, 4), 0);
        CHECK.due("v3", x.getFrame(0, 7), 0);
        CHECK.due("storing, loading, passing and moving null", x.run(16), DONE);
        CHECK.due("field 0", x.getObject(0, 4), -1);
        CHECK.due("v3", x.getFrame(0, 7), -1);
        CHECK.due("v4", x.getFrame(0, 8), -1);
    }

    /** m of class 1 stops in its own frame, after it has made an object. */
    private static void stopsInAMethod() {
        CHECK.says("A step that sets ST_NULL, ST_DEPTH or ST_HEAPFULL changes nothing else.");
        int[][] stmts = {{LOAD, 2, 3}, {STORE, 3, 2}, {CALL, 2, 8 * 1 + 3}, {NEW, 2, 0}, {CALL, 2, 8 * 1 + 0}};
        int[] due = {OwnerDominance.ST_NULL, OwnerDominance.ST_NULL, OwnerDominance.ST_NULL,
            OwnerDominance.ST_HEAPFULL, OwnerDominance.ST_DEPTH};
        for (int i = 0; i < stmts.length; i++) {
            OwnerDominance x = new OwnerDominance(due[i] == OwnerDominance.ST_HEAPFULL ? 4 : 32);
            x.addClass(0);
            x.addClass(0);
            x.addField(0, 0);
            for (int n = 0; n < 2; n++) {
                x.addStmt(1, NEW, 2, 0);
            }
            x.addStmt(1, stmts[i][0], stmts[i][1], stmts[i][2]);
            x.addStmt(1, NULL, 2, 0);
            x.setLocal(MAIN, 0, 1);
            x.addStmt(MAIN, NEW, 1, 0);
            x.addStmt(MAIN, NEW, 0, 1);
            x.addStmt(MAIN, CALL, 2, 8 * 1 + 0);
            compiled(x);
            // In m's frame, or in the eighth frame where m calls itself.
            int before = due[i] == OwnerDominance.ST_DEPTH ? 3 + 6 * 3 + 2 : 5;
            for (int n = 0; n < before; n++) {
                CHECK.due("run(1)", x.run(1), RUNNING);
            }
            stops(x, due[i]);
        }
    }

    private static void absentFieldsStayNull() {
        CHECK.says("4 fields, each an object id or -1 for null (fields >= fieldCount of its class stay -1).");
        for (int count = 0; count <= 4; count++) {
            OwnerDominance x = new OwnerDominance(8);
            x.addClass(0);
            x.addStmt(MAIN, NEW, 0, 0);
            for (int f = 0; f < count; f++) {
                x.addField(0, 0);
                x.addStmt(MAIN, STORE, 0, 8 * f + 0);
            }
            compiled(x);
            CHECK.due("run(16)", x.run(16), DONE);
            for (int f = 0; f < 4; f++) {
                CHECK.due("field " + f + " of " + count, x.getObject(0, 4 + f), f < count ? 0 : -1);
            }
        }
    }

    private static void unusedOwners() {
        CHECK.says("owner values W0, W1, W2, each an object id or -1 for world (unused ones are -1);");
        int[] types = {Types.type(1, Types.REP), Types.type(2, Types.REP, Types.REP),
            Types.type(3, Types.REP, Types.REP, Types.REP)};
        for (int formals = 0; formals <= 2; formals++) {
            OwnerDominance x = new OwnerDominance(8);
            x.addClass(2);
            for (int c = 0; c <= 2; c++) {
                x.addClass(c);
            }
            x.setSignature(0, 1, 1);
            x.setLocal(0, 2, types[formals]);
            x.addStmt(0, NEW, 2, types[formals]);
            x.setLocal(MAIN, 1, 1);
            x.addStmt(MAIN, NEW, 0, 0);
            x.addStmt(MAIN, CALL, 1, 8 * 1 + 0);
            compiled(x);
            CHECK.due("run(16)", x.run(16), DONE);
            for (int i = 0; i <= 2; i++) {
                CHECK.due("W" + i + " with " + formals, x.getObject(1, 1 + i), i <= formals ? 0 : -1);
                CHECK.due("W" + i + " of main's object", x.getObject(0, 1 + i), -1);
            }
        }
    }

    private static void objectsAreNeverFreed() {
        CHECK.says("Objects are numbered 0..count-1 and are never freed.");
        OwnerDominance x = new OwnerDominance(4);
        x.addClass(0);
        for (int i = 0; i < 4; i++) {
            x.addStmt(MAIN, NEW, 0, 0);
            x.addStmt(MAIN, NULL, 0, 0);
        }
        x.addStmt(MAIN, NEW, 0, 0);
        compiled(x);
        for (int i = 0; i < 4; i++) {
            CHECK.due("run(1)", x.run(1), RUNNING);
            CHECK.due("the new object", x.getFrame(0, 4), i);
            CHECK.due("run(1)", x.run(1), RUNNING);
            CHECK.due("getObjectCount()", x.getObjectCount(), i + 1);
        }
        stops(x, OwnerDominance.ST_HEAPFULL);
    }

    /** The method runs off its end after 0 to 16 statements, and what it returns into was not null. */
    private static void endOfAnyBody() {
        CHECK.says("A class body with pc >= its statement count acts as RETURN of null.");
        for (int size = 0; size <= 16; size++) {
            OwnerDominance x = new OwnerDominance(8);
            x.addClass(0);
            for (int i = 0; i < size; i++) {
                x.addStmt(0, MOVE, 2 + i % 6, 1);
            }
            x.addStmt(MAIN, NEW, 0, 0);
            x.addStmt(MAIN, MOVE, 5, 0);
            x.addStmt(MAIN, CALL, 5, 8 * 0 + 0);
            x.addStmt(MAIN, NULL, 0, 0);
            compiled(x);
            for (int i = 0; i < 3 + size; i++) {
                CHECK.due("run(1)", x.run(1), RUNNING);
            }
            CHECK.due("pc of m", x.getFrame(1, 1), size);
            CHECK.due("v5 before", x.getFrame(0, 9), 0);
            CHECK.due("run(1)", x.run(1), RUNNING);
            CHECK.due("getFrameCount()", x.getFrameCount(), 1);
            CHECK.due("v5", x.getFrame(0, 9), -1);
            CHECK.due("v0", x.getFrame(0, 4), 0);
            CHECK.due("pc of main", x.getFrame(0, 1), 3);
        }
    }

    /** Every local of main and of a method can be the one that gets the value. */
    private static void everyReturnVariable() {
        CHECK.says("the caller's local named by the popped frame's return variable gets value.");
        for (int v = 0; v < 8; v++) {
            for (int inner = 1; inner < 8; inner++) {
                OwnerDominance x = new OwnerDominance(8);
                x.addClass(0);
                x.addClass(0);
                x.addStmt(0, RETURN, 1, 0);
                x.addStmt(1, NEW, 7, 0);
                x.addStmt(1, CALL, inner, 8 * 7 + 7);
                x.addStmt(1, RETURN, inner, 0);
                int keeper = v == 0 ? 1 : 0;
                x.setLocal(MAIN, keeper, 1);
                x.addStmt(MAIN, NEW, keeper, 1);
                x.addStmt(MAIN, CALL, v, 8 * v + keeper);
                compiled(x);
                CHECK.due("run(4)", x.run(4), RUNNING);
                CHECK.due("the return variable", x.getFrame(2, 3), inner);
                CHECK.due("main's return variable", x.getFrame(0, 3), -1);
                CHECK.due("run(1)", x.run(1), RUNNING);
                CHECK.due("v" + inner + " of m", x.getFrame(1, 4 + inner), 1);
                CHECK.due("run(1)", x.run(1), DONE);
                CHECK.due("v" + v + " of main", x.getFrame(0, 4 + v), 1);
                for (int other = 0; other < 8; other++) {
                    if (other != v && other != keeper) {
                        CHECK.due("v" + other + " of main", x.getFrame(0, 4 + other), -1);
                    }
                }
            }
        }
    }

    /** The eighth frame may be there; it is the ninth that is not. */
    private static void eightFrames() {
        CHECK.says("Frames are numbered 0..n-1, with at most 8 frames; frame 0 is main.");
        OwnerDominance x = new OwnerDominance(8);
        int own = Types.type(0, Types.OWNER);
        x.addClass(0);
        x.addField(0, own);
        x.setSignature(0, own, own);
        for (int v = 2; v < 8; v++) {
            x.setLocal(0, v, own);
        }
        x.addStmt(0, LOAD, 2, 8 * 0 + 1);
        x.addStmt(0, CALL, 3, 8 * 2 + 2);
        // A chain of objects; m(v1) calls m with the next one, and the last calls on null.
        for (int v = 0; v < 7; v++) {
            x.addStmt(MAIN, NEW, v, 0);
        }
        for (int v = 0; v < 6; v++) {
            x.addStmt(MAIN, STORE, v, v + 1);
        }
        x.addStmt(MAIN, CALL, 7, 8 * 0 + 0);
        compiled(x);
        CHECK.due("run(14)", x.run(14), RUNNING);
        for (int frames = 2; frames <= 8; frames++) {
            CHECK.due("getFrameCount()", x.getFrameCount(), frames);
            CHECK.due("body of main's frame", x.getFrame(0, 0), MAIN);
            CHECK.due("receiver of main's frame", x.getFrame(0, 2), -1);
            CHECK.due("body of the top frame", x.getFrame(frames - 1, 0), 0);
            CHECK.due("receiver of the top frame", x.getFrame(frames - 1, 2), frames - 2);
            CHECK.due("no more frames", x.getFrame(frames, 0), -2);
            CHECK.due("run", x.run(frames < 8 ? 2 : 1), RUNNING);
        }
        stops(x, OwnerDominance.ST_NULL);
    }

    /** m calls itself. */
    private static void depthStop() {
        CHECK.says("Otherwise, if there are 8 frames, the status becomes ST_DEPTH.");
        OwnerDominance x = new OwnerDominance(8);
        int own = Types.type(0, Types.OWNER);
        x.addClass(0);
        x.addField(0, own);
        x.setSignature(0, own, own);
        for (int v = 2; v < 8; v++) {
            x.setLocal(0, v, own);
        }
        x.addStmt(0, CALL, 2, 8 * 0 + 0);
        x.addStmt(0, RETURN, 2, 0);
        x.addStmt(MAIN, NEW, 0, 0);
        x.addStmt(MAIN, CALL, 1, 8 * 0 + 0);
        compiled(x);
        CHECK.due("run(8)", x.run(8), RUNNING);
        CHECK.due("getFrameCount()", x.getFrameCount(), 8);
        CHECK.due("pc of frame 6", x.getFrame(6, 1), 1);
        CHECK.due("pc of frame 7", x.getFrame(7, 1), 0);
        stops(x, OwnerDominance.ST_DEPTH);
    }

    /** Seven objects in a chain, each calling the next one; the last has none to call, in the eighth frame. */
    private static void nullComesBeforeDepth() {
        CHECK.says("CALL: if vy is null, the status becomes ST_NULL. Otherwise, if there are 8 frames");
        OwnerDominance x = new OwnerDominance(8);
        int own = Types.type(0, Types.OWNER);
        x.addClass(0);
        x.addField(0, own);
        x.setSignature(0, own, own);
        x.setLocal(0, 2, own);
        x.addStmt(0, LOAD, 2, 8 * 0 + 0);
        x.setLocal(0, 3, own);
        x.addStmt(0, CALL, 3, 8 * 2 + 2);
        for (int v = 0; v < 7; v++) {
            x.addStmt(MAIN, NEW, v, 0);
        }
        for (int v = 0; v < 6; v++) {
            x.addStmt(MAIN, STORE, v, v + 1);
        }
        x.addStmt(MAIN, CALL, 7, 8 * 7 + 0);
        compiled(x);
        CHECK.due("run(14)", x.run(14), RUNNING);
        CHECK.due("run(13)", x.run(13), RUNNING);
        CHECK.due("getFrameCount()", x.getFrameCount(), 8);
        stops(x, OwnerDominance.ST_NULL);
    }

    private static void heapFullStop() {
        CHECK.says("NEW: if count == capacity, the status becomes ST_HEAPFULL.");
        for (int capacity = 4; capacity <= 6; capacity++) {
            OwnerDominance x = new OwnerDominance(capacity);
            x.addClass(0);
            for (int i = 0; i < 8; i++) {
                x.addStmt(MAIN, NEW, 7 - i, 0);
            }
            compiled(x);
            CHECK.due("run", x.run(capacity), RUNNING);
            CHECK.due("getObjectCount()", x.getObjectCount(), capacity);
            stops(x, OwnerDominance.ST_HEAPFULL);
        }
        OwnerDominance x = new OwnerDominance(4);
        x.addClass(0);
        for (int i = 0; i < 4; i++) {
            x.addStmt(MAIN, NEW, i, 0);
        }
        compiled(x);
        CHECK.due("a heap that is just full", x.run(16), DONE);
    }
}
