/** Promise 8: every variable and every field can be an operand of a statement, and nothing else is touched. */
public final class Promise08OperandsTest {
    private static final Check CHECK = new Check();
    private static final int NEW = OwnerDominance.OP_NEW;
    private static final int MOVE = OwnerDominance.OP_MOVE;
    private static final int LOAD = OwnerDominance.OP_LOAD;
    private static final int STORE = OwnerDominance.OP_STORE;
    private static final int CALL = OwnerDominance.OP_CALL;
    private static final int NULL = OwnerDominance.OP_NULL;
    private static final int MAIN = OwnerDominance.BODY_MAIN;
    private static final int RUNNING = OwnerDominance.ST_RUNNING;

    public static void main(String[] args) {
        news();
        moves();
        nulls();
        loads();
        stores();
        calls();
        mainsFrame();
        ownersOfEveryType();
        CHECK.end();
    }

    /** Main's variable v holds object v; all are of one class with four fields. */
    private static OwnerDominance eightObjects() {
        OwnerDominance x = new OwnerDominance(32);
        x.addClass(0);
        for (int f = 0; f < 4; f++) {
            x.addField(0, 0);
        }
        for (int v = 0; v < 8; v++) {
            x.addStmt(MAIN, NEW, v, 0);
        }
        return x;
    }

    /** The statement stands last but one in main; what it changes is told as Snapshot.changes tells it. */
    private static void changes(OwnerDominance x, int op, int a, int b, String due) {
        x.addStmt(MAIN, op, a, b);
        x.addStmt(MAIN, NULL, 0, 0);
        CHECK.due("compile(1)", x.compile(1), 0);
        int before = x.getDecl(MAIN, 16) - 2;
        CHECK.due("run(" + before + ")", x.run(before), RUNNING);
        String machine = Snapshot.machine(x);
        CHECK.due("run(1)", x.run(1), RUNNING);
        String pc = before + "->" + (before + 1);
        CHECK.same("(" + op + ", " + a + ", " + b + ")", Snapshot.changes(machine, Snapshot.machine(x)),
                due.replace("pc", pc));
    }

    private static void news() {
        CHECK.says("Otherwise a new object with id count is created. .. Then va = its id and pc++.");
        for (int a = 0; a < 8; a++) {
            OwnerDominance x = eightObjects();
            x.addStmt(MAIN, NEW, a, 0);
            x.addStmt(MAIN, NULL, 0, 0);
            CHECK.due("compile(1)", x.compile(1), 0);
            CHECK.due("run(9)", x.run(9), RUNNING);
            CHECK.due("getObjectCount()", x.getObjectCount(), 9);
            CHECK.due("pc", x.getFrame(0, 1), 9);
            for (int v = 0; v < 8; v++) {
                CHECK.due("v" + v, x.getFrame(0, 4 + v), v == a ? 8 : v);
            }
        }
    }

    private static void moves() {
        CHECK.says("MOVE: va = vb; pc++.");
        for (int a = 0; a < 8; a++) {
            for (int b = 0; b < 8; b++) {
                changes(eightObjects(), MOVE, a, b, a == b ? "pc" : "pc " + a + "->" + b);
            }
        }
    }

    private static void nulls() {
        CHECK.says("NULL: va = -1; pc++.");
        for (int a = 0; a < 8; a++) {
            for (int b : Ints.ANY) {
                changes(eightObjects(), NULL, a, b, "pc " + a + "->-1");
            }
        }
    }

    private static void loads() {
        CHECK.says("Otherwise va = field q of object vy; pc++.");
        for (int a = 0; a < 8; a++) {
            for (int y = 0; y < 8; y++) {
                for (int q = 0; q < 4; q++) {
                    OwnerDominance x = eightObjects();
                    int other = (y + 3) % 8;
                    x.addStmt(MAIN, STORE, y, 8 * q + other);
                    changes(x, LOAD, a, 8 * q + y, a == other ? "pc" : "pc " + a + "->" + other);
                }
            }
        }
    }

    private static void stores() {
        CHECK.says("Otherwise field q of object va = vy; pc++.");
        for (int a = 0; a < 8; a++) {
            for (int y = 0; y < 8; y++) {
                for (int q = 0; q < 4; q++) {
                    changes(eightObjects(), STORE, a, 8 * q + y, "-1->" + y + " pc");
                    OwnerDominance x = eightObjects();
                    x.addStmt(MAIN, STORE, a, 8 * q + y);
                    x.compile(1);
                    x.run(9);
                    CHECK.due("the field", x.getObject(a, 4 + q), y);
                }
            }
        }
    }

    /** The second call finds the locals of the first one's frame, which must not be seen. */
    private static void calls() {
        CHECK.says("a frame is pushed with body = class of object vy, pc 0, receiver vy, v0 = vy, v1 = vq,"
                + " v2..v7 null, and return variable a.");
        for (int a = 0; a < 8; a++) {
            for (int y = 0; y < 8; y++) {
                for (int q = 0; q < 8; q++) {
                    OwnerDominance x = eightObjects();
                    for (int v = 2; v < 8; v++) {
                        x.addStmt(0, MOVE, v, 1);
                    }
                    x.addStmt(0, OwnerDominance.OP_RETURN, 1, 0);
                    x.addStmt(MAIN, CALL, q, 8 * q + y);
                    x.addStmt(MAIN, CALL, a, 8 * q + y);
                    CHECK.due("compile(1)", x.compile(1), 0);
                    CHECK.due("run(16)", x.run(16), RUNNING);
                    String main = Snapshot.machine(x);
                    CHECK.due("run(1)", x.run(1), RUNNING);
                    CHECK.same("(5, " + a + ", " + (8 * q + y) + ")", Snapshot.machine(x),
                            main.replace("frame 0: 8 9 ", "frame 0: 8 10 ") + "\n frame 1: 0 0 " + y + " " + a + " "
                            + y + " " + q + " -1 -1 -1 -1 -1 -1");
                }
            }
        }
    }

    private static void mainsFrame() {
        CHECK.says("a receiver r (-1 in main); a return variable (-1 in main); locals v0..v7 (-1 = null).");
        OwnerDominance x = eightObjects();
        x.addStmt(MAIN, CALL, 1, 8 * 2 + 3);
        x.compile(1);
        for (int i = 0; i < 11; i++) {
            CHECK.due("receiver of main", x.getFrame(0, 2), -1);
            CHECK.due("return variable of main", x.getFrame(0, 3), -1);
            for (int v = i; v < 8; v++) {
                CHECK.due("v" + v, x.getFrame(0, 4 + v), -1);
            }
            x.run(1);
        }
        CHECK.due("getStatus()", x.getStatus(), OwnerDominance.ST_DONE);
    }

    /** The receiver is object 3 with the owners (2, 1, 0), so that every atom stands for another value. */
    private static void ownersOfEveryType() {
        CHECK.says("A_WORLD -> -1; A_OWNER -> W0(r); A_REP -> r; A_P1 -> W1(r); A_P2 -> W2(r).");
        int[] value = {-1, 2, 3, 1, 0};
        for (int first = 0; first <= 4; first++) {
            for (int second = 0; second <= 4; second++) {
                for (int third = 0; third <= 4; third++) {
                    int[] types = {Types.type(0, first), Types.type(1, first, second),
                        Types.type(2, first, second, third)};
                    OwnerDominance x = deepReceiver(types);
                    for (int i = 0; i < 3; i++) {
                        CHECK.due("the class", x.getObject(4 + i, 0), i);
                        CHECK.due("W0", x.getObject(4 + i, 1), value[first]);
                        CHECK.due("W1", x.getObject(4 + i, 2), i >= 1 ? value[second] : -1);
                        CHECK.due("W2", x.getObject(4 + i, 3), i >= 2 ? value[third] : -1);
                        for (int f = 0; f < 4; f++) {
                            CHECK.due("a field", x.getObject(4 + i, 4 + f), -1);
                        }
                    }
                }
            }
        }
    }

    /** Classes 3 to 6 make the next one each, and class 6 makes objects of the three types, as objects 4, 5 and 6. */
    private static OwnerDominance deepReceiver(int[] types) {
        OwnerDominance x = new OwnerDominance(8);
        int[] formals = {0, 1, 2, 2, 2, 2, 2};
        for (int count : formals) {
            x.addClass(count);
        }
        int[] next = {Types.type(4, Types.REP, Types.REP, Types.REP),
            Types.type(5, Types.REP, Types.OWNER, Types.P1), Types.type(6, Types.REP, Types.OWNER, Types.P1)};
        for (int i = 0; i < 3; i++) {
            x.setLocal(3 + i, 2, next[i]);
            x.addStmt(3 + i, NEW, 2, next[i]);
            x.addStmt(3 + i, CALL, 3, 8 * 3 + 2);
            x.setLocal(6, 2 + i, types[i]);
            x.addStmt(6, NEW, 2 + i, types[i]);
        }
        x.setLocal(MAIN, 0, 3);
        x.addStmt(MAIN, NEW, 0, 3);
        x.addStmt(MAIN, CALL, 1, 8 * 1 + 0);
        CHECK.due("compile(0)", x.compile(0), 0);
        CHECK.due("run(11)", x.run(11), RUNNING);
        CHECK.due("getObjectCount()", x.getObjectCount(), 7);
        return x;
    }
}
