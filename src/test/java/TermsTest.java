/** What the document says before the promises: a program that is full in every way, and both modes. */
public final class TermsTest {
    private static final Check CHECK = new Check();
    private static final int NEW = OwnerDominance.OP_NEW;
    private static final int MOVE = OwnerDominance.OP_MOVE;
    private static final int LOAD = OwnerDominance.OP_LOAD;
    private static final int STORE = OwnerDominance.OP_STORE;
    private static final int CALL = OwnerDominance.OP_CALL;
    private static final int RETURN = OwnerDominance.OP_RETURN;
    private static final int NULL = OwnerDominance.OP_NULL;
    private static final int MAIN = OwnerDominance.BODY_MAIN;

    public static void main(String[] args) {
        fullProgram();
        fullProgramIsRefusedMore();
        greatestTypeWord();
        sameInBothModes();
        mainIsNoClass();
        CHECK.end();
    }

    /** Each class has four fields of the next class, and its method calls the next class's method. */
    private static OwnerDominance full(int formals) {
        OwnerDominance x = new OwnerDominance(32);
        int arguments = Types.type(0, Types.OWNER) | (formals >= 1 ? Types.P1 << 8 : 0)
                | (formals >= 2 ? Types.P2 << 12 : 0);
        for (int c = 0; c < 8; c++) {
            x.addClass(formals);
        }
        for (int c = 0; c < 8; c++) {
            int next = (c + 1) % 8 | arguments;
            int afterNext = (c + 2) % 8 | arguments;
            for (int f = 0; f < 4; f++) {
                x.addField(c, next);
            }
            x.setSignature(c, next, next);
            for (int v = 2; v < 8; v++) {
                x.setLocal(c, v, v < 6 ? next : afterNext);
            }
            x.addStmt(c, NEW, 2, next);
            x.addStmt(c, LOAD, 3, 8 * 3 + 0);
            x.addStmt(c, STORE, 0, 8 * 3 + 2);
            x.addStmt(c, CALL, 7, 8 * 6 + 2);
            while (x.getDecl(c, 16) < 15) {
                x.addStmt(c, MOVE, 4, 2);
            }
            x.addStmt(c, RETURN, 2, 0);
        }
        for (int v = 0; v < 8; v++) {
            x.setLocal(MAIN, v, v < 4 ? 0 : 1);
        }
        x.addStmt(MAIN, NEW, 0, 0);
        x.addStmt(MAIN, CALL, 7, 8 * 4 + 0);
        while (x.getDecl(MAIN, 16) < 16) {
            x.addStmt(MAIN, NULL, 3, 0);
        }
        return x;
    }

    private static void fullProgram() {
        CHECK.says("It has up to eight classes, each with zero to two owner parameters besides its own owner,"
                + " up to four typed fields and one method `m` with a typed parameter and result.");
        for (int formals = 0; formals <= 2; formals++) {
            for (int mode = 0; mode <= 1; mode++) {
                OwnerDominance x = full(formals);
                CHECK.due("statements of class 7", x.getDecl(7, 16), 16);
                CHECK.due("statements of main", x.getDecl(MAIN, 16), 16);
                CHECK.due("compile(" + mode + ") with " + formals, x.compile(mode), OwnerDominance.E_OK);
                CHECK.due("run(16)", x.run(16), OwnerDominance.ST_RUNNING);
                CHECK.due("run(16)", x.run(16), OwnerDominance.ST_DEPTH);
                CHECK.due("getFrameCount()", x.getFrameCount(), 8);
                CHECK.due("getObjectCount()", x.getObjectCount(), 8);
                for (int frame = 1; frame < 8; frame++) {
                    CHECK.due("body of frame " + frame, x.getFrame(frame, 0), frame - 1);
                    CHECK.due("class of object " + frame, x.getObject(frame, 0), frame);
                    CHECK.due("field 3 of object " + (frame - 1), x.getObject(frame - 1, 7), frame);
                }
            }
        }
    }

    private static void fullProgramIsRefusedMore() {
        CHECK.says("formals(c), from 0 to 2 owner parameters besides its own owner; fieldCount(c) fields, at most 4,"
                + " each with a declared type word fieldType(c,f);");
        for (int formals = 0; formals <= 2; formals++) {
            OwnerDominance x = full(formals);
            String before = Snapshot.of(x);
            for (int more = -1; more <= 3; more++) {
                CHECK.due("addClass(" + more + ")", x.addClass(more), -1);
            }
            for (int body = 0; body <= MAIN; body++) {
                CHECK.due("addField(" + body + ", 0)", x.addField(body, 0), -1);
                CHECK.due("addStmt(" + body + ", 6, 2, 0)", x.addStmt(body, NULL, 2, 0), -1);
            }
            CHECK.same("after refused calls", Snapshot.of(x), before);
            CHECK.due("compile(1)", x.compile(1), OwnerDominance.E_OK);
        }
    }

    /** Class 7 with P2 in all slots is the greatest type word there is. */
    private static void greatestTypeWord() {
        CHECK.says("cls = t & 15; slots o0 = (t>>4)&15, o1 = (t>>8)&15, o2 = (t>>12)&15.");
        for (int mode = 0; mode <= 1; mode++) {
            OwnerDominance x = full(2);
            int greatest = Types.type(7, Types.P2, Types.P2, Types.P2);
            CHECK.due("the greatest type word", greatest, 17479);
            for (int v = 2; v < 8; v++) {
                x.setLocal(7, v, v == 5 ? greatest : x.getDecl(7, 8 + v));
            }
            CHECK.due("compile(" + mode + ")", x.compile(mode), OwnerDominance.E_OK);
            for (int bit = 0; bit < 32; bit++) {
                x = full(2);
                x.setLocal(7, 5, greatest ^ 1 << bit);
                int due = bit < 3 ? OwnerDominance.E_OK
                        : bit == 6 || bit == 10 || bit == 14 ? mode == 0 ? OwnerDominance.E_OK : dueWithWorld(bit)
                        : OwnerDominance.E_BADTYPE;
                CHECK.due("bit " + bit + ": compile(" + mode + ")", x.compile(mode), due);
            }
        }
    }

    /** Without its bit 2 the atom P2 is world: fine as an argument, but P2 doesn't lie outside it as an owner. */
    private static int dueWithWorld(int bit) {
        return bit == 6 ? OwnerDominance.E_WELLFORMED : OwnerDominance.E_OK;
    }

    private static void sameInBothModes() {
        CHECK.says("DOMINANCE is tested the same way whichever mode the program was compiled in.");
        for (int formals = 0; formals <= 2; formals++) {
            OwnerDominance checked = full(formals);
            OwnerDominance unchecked = full(formals);
            checked.compile(OwnerDominance.MODE_CHECKED);
            unchecked.compile(OwnerDominance.MODE_UNCHECKED);
            for (int i = 0; i < 40; i++) {
                CHECK.same("the machine", Snapshot.of(checked), Snapshot.of(unchecked));
                CHECK.due("run(1)", checked.run(1), unchecked.run(1));
            }
        }
    }

    /** With eight classes, 8 is one past the last class and still main. */
    private static void mainIsNoClass() {
        CHECK.says("A class id is the body of that class's method. `BODY_MAIN = 8` is main.");
        for (int classes = 0; classes <= 8; classes++) {
            OwnerDominance x = new OwnerDominance(8);
            for (int c = 0; c < classes; c++) {
                x.addClass(1);
            }
            CHECK.due("addField(8, 0)", x.addField(MAIN, 0), -1);
            CHECK.due("setSignature(8, 0, 0)", x.setSignature(MAIN, 0, 0), false);
            CHECK.due("setLocal(8, 0, 5)", x.setLocal(MAIN, 0, 5), true);
            CHECK.due("addStmt(8, 6, 0, 0)", x.addStmt(MAIN, NULL, 0, 0), 0);
            CHECK.due("getDecl(8, 8)", x.getDecl(MAIN, 8), 5);
            CHECK.due("getDecl(8, 6)", x.getDecl(MAIN, 6), -2);
            CHECK.due("getStmt(8, 0, 0)", x.getStmt(MAIN, 0, 0), NULL);
        }
    }
}
