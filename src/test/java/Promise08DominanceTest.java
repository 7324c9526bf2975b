/** Promise 8: DOMINANCE after every step, in programs that only the unchecked mode lets pass. */
public final class Promise08DominanceTest {
    private static final Check CHECK = new Check();
    private static final int NEW = OwnerDominance.OP_NEW;
    private static final int MOVE = OwnerDominance.OP_MOVE;
    private static final int LOAD = OwnerDominance.OP_LOAD;
    private static final int STORE = OwnerDominance.OP_STORE;
    private static final int CALL = OwnerDominance.OP_CALL;
    private static final int RETURN = OwnerDominance.OP_RETURN;
    private static final int NULL = OwnerDominance.OP_NULL;
    private static final int MAIN = OwnerDominance.BODY_MAIN;
    private static final int RUNNING = OwnerDominance.ST_RUNNING;
    private static final int DONE = OwnerDominance.ST_DONE;
    private static final int VIOLATION = OwnerDominance.ST_VIOLATION;
    private static final int REP = Types.type(0, Types.REP);

    public static void main(String[] args) {
        inMain();
        mainByLoad();
        throughAField();
        throughEveryField();
        throughAnArgument();
        throughALoad();
        throughAResult();
        violationComesBeforeDone();
        insideAChain();
        outsideAChain();
        ownedObjectsMayMeet();
        throughANewObject();
        everyLocalOfMain();
        everyLocalOfEveryFrame();
        nullIsNoReference();
        theObjectItself();
        CHECK.end();
    }

    /** Class 0 has four fields of its own kind, and class 1 is the one whose method does the harm. */
    private static OwnerDominance program() {
        OwnerDominance x = new OwnerDominance(32);
        x.addClass(0);
        x.addClass(0);
        for (int f = 0; f < 4; f++) {
            x.addField(0, 0);
            x.addField(1, 0);
        }
        x.setLocal(MAIN, 6, 1);
        x.setLocal(MAIN, 7, 1);
        x.setLocal(1, 7, 1);
        return x;
    }

    private static void compile(OwnerDominance x) {
        CHECK.due("compile(0)", x.compile(0), 0);
    }

    private static void violates(OwnerDominance x, int goodSteps) {
        CHECK.due("the steps before", x.run(goodSteps), RUNNING);
        CHECK.due("the step that violates", x.run(1), VIOLATION);
        CHECK.due("getStatus()", x.getStatus(), VIOLATION);
        String before = Snapshot.of(x);
        CHECK.due("run(1)", x.run(1), VIOLATION);
        CHECK.same("after the stop", Snapshot.of(x), before);
    }

    private static void inMain() {
        CHECK.says("A failure stops the machine with a violation status. .. If it fails, the status becomes ST_VIOLATION,"
                + " and the step's changes stay.");
        OwnerDominance x = program();
        x.setSignature(1, 0, REP);
        x.addStmt(1, NEW, 2, REP);
        x.addStmt(1, RETURN, 2, 0);
        x.addStmt(MAIN, NEW, 6, 1);
        x.addStmt(MAIN, CALL, 5, 8 * 0 + 6);
        x.addStmt(MAIN, NULL, 5, 0);
        compile(x);
        violates(x, 3);
        CHECK.same("the changes stay", Snapshot.machine(x), "machine"
                + "\n object 0: 1 -1 -1 -1 -1 -1 -1 -1"
                + "\n object 1: 0 0 -1 -1 -1 -1 -1 -1"
                + "\n frame 0: 8 2 -1 -1 -1 -1 -1 -1 -1 1 0 -1");
    }

    private static void mainByLoad() {
        CHECK.says("for every local b >= 0 of main, W0(b) == -1;");
        for (int v = 0; v <= 5; v++) {
            OwnerDominance x = program();
            x.addStmt(1, NEW, 2, REP);
            x.addStmt(1, STORE, 0, 8 * 3 + 2);
            x.addStmt(MAIN, NEW, 6, 1);
            x.addStmt(MAIN, CALL, 5, 8 * 0 + 6);
            x.addStmt(MAIN, LOAD, v, 8 * 3 + 6);
            x.addStmt(MAIN, NULL, v, 0);
            compile(x);
            violates(x, 5);
            CHECK.due("the local", x.getFrame(0, 4 + v), 1);
            CHECK.due("the object's field", x.getObject(0, 7), 1);
        }
    }

    /** An object puts one that it owns into a field of another, which stands beside it and is older or younger. */
    private static void throughAField() {
        CHECK.says("for every object a and every field value b >= 0 of a, inside(a, W0(b));");
        for (int owner = 0; owner <= 1; owner++) {
            int other = 1 - owner;
            OwnerDominance x = program();
            x.addStmt(1, NEW, 2, REP);
            x.addStmt(1, STORE, 1, 8 * 1 + 2);
            x.addStmt(1, NULL, 2, 0);
            x.addStmt(MAIN, NEW, owner == 0 ? 6 : 0, owner == 0 ? 1 : 0);
            x.addStmt(MAIN, NEW, owner == 0 ? 0 : 6, owner == 0 ? 0 : 1);
            x.addStmt(MAIN, CALL, 2, 8 * 0 + 6);
            compile(x);
            violates(x, 4);
            CHECK.due("the field", x.getObject(other, 5), 2);
            CHECK.due("its owner", x.getObject(2, 1), owner);
            CHECK.due("pc", x.getFrame(1, 1), 2);
        }
    }

    private static void throughEveryField() {
        CHECK.says("for every object a and every field value b >= 0 of a, inside(a, W0(b));");
        for (int f = 0; f < 4; f++) {
            OwnerDominance x = program();
            x.addStmt(1, NEW, 2, REP);
            x.addStmt(1, STORE, 0, 8 * f + 2);
            x.addStmt(1, STORE, 1, 8 * f + 2);
            x.addStmt(MAIN, NEW, 6, 1);
            x.addStmt(MAIN, NEW, 0, 0);
            x.addStmt(MAIN, CALL, 2, 8 * 0 + 6);
            compile(x);
            violates(x, 5);
            CHECK.due("the owner's field", x.getObject(0, 4 + f), 2);
            CHECK.due("the other's field", x.getObject(1, 4 + f), 2);
        }
    }

    /** Object 0 hands an object that it owns to a method of object 1. */
    private static void throughAnArgument() {
        CHECK.says("for every local b >= 0 of a frame with receiver r >= 0, inside(r, W0(b)).");
        OwnerDominance x = program();
        x.addStmt(1, NEW, 2, REP);
        x.addStmt(1, CALL, 3, 8 * 2 + 1);
        x.addStmt(MAIN, NEW, 6, 1);
        x.addStmt(MAIN, NEW, 0, 0);
        x.addStmt(MAIN, CALL, 2, 8 * 0 + 6);
        compile(x);
        violates(x, 4);
        CHECK.due("getFrameCount()", x.getFrameCount(), 3);
        CHECK.due("v1 of the new frame", x.getFrame(2, 5), 2);
        CHECK.due("receiver of the new frame", x.getFrame(2, 2), 1);
    }

    /** Object 0 owns object 2, and object 1 reads it out of object 0's field into each of its locals. */
    private static void throughALoad() {
        CHECK.says("for every local b >= 0 of a frame with receiver r >= 0, inside(r, W0(b)).");
        for (int v = 1; v < 7; v++) {
            OwnerDominance x = program();
            x.addClass(0);
            x.addStmt(1, NEW, 2, REP);
            x.addStmt(1, STORE, 0, 2);
            x.setLocal(2, 7, 1);
            x.setLocal(MAIN, 5, 2);
            x.addField(2, 1);
            x.addStmt(2, LOAD, 7, 0);
            x.addStmt(2, LOAD, v, 7);
            x.addStmt(2, NULL, v, 0);
            x.addStmt(MAIN, NEW, 6, 1);
            x.addStmt(MAIN, NEW, 5, 2);
            x.addStmt(MAIN, STORE, 5, 6);
            x.addStmt(MAIN, CALL, 0, 8 * 0 + 6);
            x.addStmt(MAIN, CALL, 0, 8 * 0 + 5);
            compile(x);
            violates(x, 9);
            CHECK.due("the local", x.getFrame(1, 4 + v), 2);
            CHECK.due("receiver", x.getFrame(1, 2), 1);
        }
    }

    /** Object 0 calls object 1, which answers an object that it owns. */
    private static void throughAResult() {
        CHECK.says("for every local b >= 0 of a frame with receiver r >= 0, inside(r, W0(b)).");
        OwnerDominance x = program();
        x.setSignature(0, 0, REP);
        x.addStmt(0, NEW, 2, REP);
        x.addStmt(0, RETURN, 2, 0);
        x.addStmt(1, CALL, 4, 8 * 2 + 1);
        x.addStmt(1, NULL, 4, 0);
        x.addStmt(MAIN, NEW, 6, 1);
        x.addStmt(MAIN, NEW, 0, 0);
        x.addStmt(MAIN, CALL, 2, 8 * 0 + 6);
        compile(x);
        violates(x, 5);
        CHECK.due("the local", x.getFrame(1, 8), 2);
        CHECK.due("getFrameCount()", x.getFrameCount(), 2);
    }

    private static void violationComesBeforeDone() {
        CHECK.says("After each step that leaves the status at ST_RUNNING, if FINISHED, the status becomes ST_DONE");
        OwnerDominance x = program();
        x.addStmt(1, NEW, 2, REP);
        x.addStmt(1, STORE, 0, 2);
        x.addStmt(MAIN, NEW, 6, 1);
        x.addStmt(MAIN, CALL, 5, 8 * 0 + 6);
        x.addStmt(MAIN, LOAD, 5, 6);
        compile(x);
        violates(x, 5);
        CHECK.due("pc", x.getFrame(0, 1), 3);
        CHECK.due("restart()", x.restart(), true);
        CHECK.due("run(16)", x.run(16), VIOLATION);
    }

    /** Object 0 owns 1 and 2, 2 owns 3, 3 owns 4, and so on: each of them may refer to object 1. */
    private static void insideAChain() {
        CHECK.says("Otherwise it is true iff o is among x, W0(x), W0(W0(x)), and so on, followed until -1.");
        OwnerDominance x = program();
        x.addStmt(0, NEW, 2, REP);
        x.addStmt(0, STORE, 0, 8 * 2 + 1);
        x.addStmt(0, STORE, 2, 8 * 1 + 1);
        x.addStmt(0, CALL, 3, 8 * 1 + 2);
        x.addStmt(1, NEW, 2, REP);
        x.addStmt(1, NEW, 3, REP);
        x.addStmt(1, CALL, 4, 8 * 2 + 3);
        x.addStmt(MAIN, NEW, 6, 1);
        x.addStmt(MAIN, CALL, 5, 8 * 0 + 6);
        compile(x);
        int status = RUNNING;
        for (int i = 0; i < 10 && status == RUNNING; i++) {
            status = x.run(16);
        }
        CHECK.due("the chain", status, OwnerDominance.ST_DEPTH);
        CHECK.due("getObjectCount()", x.getObjectCount(), 9);
        for (int obj = 3; obj < 9; obj++) {
            CHECK.due("the owner of " + obj, x.getObject(obj, 1), obj - 1);
            CHECK.due("a field of " + obj, x.getObject(obj, 5), 1);
        }
        CHECK.due("v1 of the last frame", x.getFrame(7, 5), 1);
    }

    /** Object 0 owns object 1, and so stands outside it: it may not see what object 1 owns. */
    private static void outsideAChain() {
        CHECK.says("Otherwise it is true iff o is among x, W0(x), W0(W0(x)), and so on, followed until -1.");
        OwnerDominance x = program();
        x.addClass(0);
        x.addField(2, 0);
        int repKeeper = Types.type(2, Types.REP);
        x.addStmt(2, NEW, 2, REP);
        x.addStmt(2, STORE, 0, 2);
        x.setLocal(1, 2, repKeeper);
        x.addStmt(1, NEW, 2, repKeeper);
        x.addStmt(1, NEW, 3, REP);
        x.addStmt(1, CALL, 4, 8 * 3 + 2);
        x.addStmt(1, MOVE, 5, 3);
        x.addStmt(1, LOAD, 6, 2);
        x.addStmt(MAIN, NEW, 6, 1);
        x.addStmt(MAIN, CALL, 5, 8 * 0 + 6);
        compile(x);
        violates(x, 9);
        CHECK.due("the local", x.getFrame(1, 10), 3);
        CHECK.due("its owner", x.getObject(3, 1), 1);
        CHECK.due("its owner's owner", x.getObject(1, 1), 0);
    }

    /** Siblings of one owner may refer to each other, and everyone to what the world owns. */
    private static void ownedObjectsMayMeet() {
        CHECK.says("is true if o == -1.");
        OwnerDominance x = program();
        x.addStmt(1, NEW, 2, REP);
        x.addStmt(1, NEW, 3, REP);
        x.addStmt(1, STORE, 2, 8 * 0 + 3);
        x.addStmt(1, STORE, 3, 8 * 1 + 2);
        x.addStmt(1, STORE, 3, 8 * 2 + 3);
        x.addStmt(1, STORE, 3, 8 * 3 + 1);
        x.addStmt(1, STORE, 0, 8 * 0 + 3);
        x.addStmt(1, CALL, 4, 8 * 3 + 2);
        x.addStmt(1, MOVE, 5, 1);
        x.addStmt(1, RETURN, 5, 0);
        x.addStmt(MAIN, NEW, 6, 1);
        x.addStmt(MAIN, NEW, 0, 0);
        x.addStmt(MAIN, CALL, 2, 8 * 0 + 6);
        compile(x);
        CHECK.due("run(16)", x.run(16), DONE);
        CHECK.due("the result", x.getFrame(0, 6), 1);
        CHECK.same("the heap", Snapshot.machine(x), "machine"
                + "\n object 0: 1 -1 -1 -1 3 -1 -1 -1"
                + "\n object 1: 0 -1 -1 -1 -1 -1 -1 -1"
                + "\n object 2: 0 0 -1 -1 3 -1 -1 -1"
                + "\n object 3: 0 0 -1 -1 -1 2 3 1"
                + "\n frame 0: 8 3 -1 -1 1 -1 1 -1 -1 -1 0 -1");
    }

    /** Object 0 makes object 1 beside itself, with itself as the argument; object 1 then makes what 0 owns. */
    private static void throughANewObject() {
        CHECK.says("After every step that did not set ST_NULL, ST_DEPTH or ST_HEAPFULL, DOMINANCE (below) is tested.");
        for (int formal = 1; formal <= 2; formal++) {
            OwnerDominance x = program();
            x.addClass(2);
            int maker = formal == 1 ? Types.type(2, Types.WORLD, Types.REP, Types.WORLD)
                    : Types.type(2, Types.WORLD, Types.WORLD, Types.REP);
            int made = Types.type(0, formal == 1 ? Types.P1 : Types.P2);
            x.setLocal(1, 2, maker);
            x.addStmt(1, NEW, 2, maker);
            x.addStmt(1, CALL, 3, 8 * 3 + 2);
            x.addStmt(2, NEW, 4, made);
            x.addStmt(2, NULL, 4, 0);
            x.addStmt(MAIN, NEW, 6, 1);
            x.addStmt(MAIN, CALL, 5, 8 * 0 + 6);
            compile(x);
            violates(x, 4);
            CHECK.due("the new object's owner", x.getObject(2, 1), 0);
            CHECK.due("the local", x.getFrame(2, 8), 2);
            CHECK.due("pc", x.getFrame(2, 1), 1);
        }
    }

    /** Main's keeper is in another variable than the one that reads what it owns, or in the same one. */
    private static void everyLocalOfMain() {
        CHECK.says("for every local b >= 0 of main, W0(b) == -1;");
        for (int keeper = 0; keeper < 8; keeper++) {
            for (int v = 0; v < 8; v++) {
                OwnerDominance x = new OwnerDominance(8);
                x.addClass(0);
                x.addField(0, 0);
                x.addStmt(0, NEW, 2, REP);
                x.addStmt(0, STORE, 0, 2);
                x.addStmt(MAIN, NEW, keeper, 0);
                x.addStmt(MAIN, CALL, (keeper + 1) % 8, 8 * ((keeper + 1) % 8) + keeper);
                x.addStmt(MAIN, LOAD, v, keeper);
                x.addStmt(MAIN, NULL, v, 0);
                compile(x);
                violates(x, 5);
                CHECK.due("v" + v, x.getFrame(0, 4 + v), 1);
                CHECK.due("pc", x.getFrame(0, 1), 3);
            }
        }
    }

    /** Object 0 keeps what it owns in its field; the last of some classes that call each other reads it. */
    private static void everyLocalOfEveryFrame() {
        CHECK.says("for every local b >= 0 of a frame with receiver r >= 0, inside(r, W0(b)).");
        for (int depth = 1; depth <= 7; depth++) {
            for (int v = 1; v < 8; v++) {
                OwnerDominance x = new OwnerDominance(32);
                for (int c = 0; c <= depth; c++) {
                    x.addClass(0);
                }
                x.addField(0, 0);
                x.addStmt(0, NEW, 2, REP);
                x.addStmt(0, STORE, 0, 2);
                for (int c = 1; c < depth; c++) {
                    x.setLocal(c, 2, c + 1);
                    x.addStmt(c, NEW, 2, c + 1);
                    x.addStmt(c, CALL, 3, 8 * 1 + 2);
                }
                x.addStmt(depth, LOAD, v, 1);
                x.setLocal(MAIN, 3, 1);
                x.addStmt(MAIN, NEW, 0, 0);
                x.addStmt(MAIN, CALL, 1, 8 * 2 + 0);
                x.addStmt(MAIN, NEW, 3, 1);
                x.addStmt(MAIN, CALL, 1, 8 * 0 + 3);
                compile(x);
                CHECK.due("run(5)", x.run(5), RUNNING);
                violates(x, 2 * depth);
                CHECK.due("getFrameCount()", x.getFrameCount(), depth + 1);
                CHECK.due("v" + v + " of frame " + depth, x.getFrame(depth, 4 + v), 1);
            }
        }
    }

    private static void nullIsNoReference() {
        CHECK.says("every field value b >= 0 of a .. for every local b >= 0 of main");
        OwnerDominance x = program();
        x.addStmt(1, NEW, 2, REP);
        x.addStmt(1, STORE, 0, 2);
        x.addStmt(1, NULL, 2, 0);
        x.addStmt(1, STORE, 1, 8 * 3 + 2);
        x.addStmt(1, STORE, 0, 2);
        x.addStmt(1, RETURN, 2, 0);
        x.addStmt(MAIN, NEW, 6, 1);
        x.addStmt(MAIN, NEW, 0, 0);
        x.addStmt(MAIN, CALL, 2, 8 * 0 + 6);
        x.addStmt(MAIN, LOAD, 3, 6);
        compile(x);
        CHECK.due("run(16)", x.run(16), DONE);
        CHECK.due("v2", x.getFrame(0, 6), -1);
        CHECK.due("v3", x.getFrame(0, 7), -1);
        CHECK.due("the owned object is still there", x.getObject(2, 1), 0);
    }

    /** An owner may hold what it owns, in every field and every local. */
    private static void theObjectItself() {
        CHECK.says("o is among x");
        OwnerDominance x = program();
        for (int v = 1; v < 7; v++) {
            x.addStmt(1, NEW, v, REP);
        }
        for (int f = 0; f < 4; f++) {
            x.addStmt(1, STORE, 0, 8 * f + 2 + f);
        }
        x.addStmt(MAIN, NEW, 6, 1);
        x.addStmt(MAIN, CALL, 2, 8 * 0 + 6);
        compile(x);
        CHECK.due("run(12)", x.run(12), RUNNING);
        CHECK.same("the heap", Snapshot.machine(x), "machine"
                + "\n object 0: 1 -1 -1 -1 2 3 4 5"
                + "\n object 1: 0 0 -1 -1 -1 -1 -1 -1"
                + "\n object 2: 0 0 -1 -1 -1 -1 -1 -1"
                + "\n object 3: 0 0 -1 -1 -1 -1 -1 -1"
                + "\n object 4: 0 0 -1 -1 -1 -1 -1 -1"
                + "\n object 5: 0 0 -1 -1 -1 -1 -1 -1"
                + "\n object 6: 0 0 -1 -1 -1 -1 -1 -1"
                + "\n frame 0: 8 2 -1 -1 -1 -1 -1 -1 -1 -1 0 -1"
                + "\n frame 1: 1 10 0 2 0 1 2 3 4 5 6 -1");
        CHECK.due("run(1)", x.run(1), DONE);
    }
}
