/** Promise 7: the statement tests S1 to S4, and that they come before S5. */
public final class Promise07OperandsTest {
    private static final Check CHECK = new Check();
    private static final int OK = OwnerDominance.E_OK;
    private static final int BADOPERAND = OwnerDominance.E_BADOPERAND;
    private static final int MISMATCH = OwnerDominance.E_MISMATCH;
    private static final int MAIN = OwnerDominance.BODY_MAIN;

    public static void main(String[] args) {
        operations();
        targets();
        moves();
        packed();
        fields();
        returnInMain();
        assignmentToThis();
        ignoredOperands();
        beforeTyping();
        CHECK.end();
    }

    /** Every type is the type word 0, but for v0 of the class body, whose self type is 0x10. */
    private static void stmt(int body, int op, int a, int b, int checked, int unchecked) {
        int[] due = {unchecked, checked};
        for (int mode = 0; mode <= 1; mode++) {
            OwnerDominance x = new OwnerDominance(8);
            x.addClass(0);
            for (int f = 0; f < 3; f++) {
                x.addField(0, 0);
            }
            x.addStmt(body, OwnerDominance.OP_NULL, 3, 0);
            x.addStmt(body, op, a, b);
            String what = "body " + body + ", (" + op + ", " + a + ", " + b + ")";
            CHECK.due(what + ": compile(" + mode + ")", x.compile(mode), due[mode]);
            CHECK.due(what + ": getErrorAt()", x.getErrorAt(), due[mode] == OK ? -1 : body * 32 + 17);
        }
    }

    private static void both(int body, int op, int a, int b, int due) {
        stmt(body, op, a, b, due, due);
    }

    private static void operations() {
        CHECK.says("**S1:** op not in 1..7 gives E_BADOPERAND.");
        for (int op : Ints.notIn(1, 7)) {
            both(0, op, 2, 1, BADOPERAND);
            both(MAIN, op, 2, 1, BADOPERAND);
        }
        for (int op = 1; op <= 6; op++) {
            int b = op == OwnerDominance.OP_NEW ? 0 : 10;
            both(0, op, 2, op == OwnerDominance.OP_MOVE ? 1 : b, OK);
            both(MAIN, op, 2, op == OwnerDominance.OP_MOVE ? 1 : b, OK);
        }
    }

    /** A second operand that fits every variable of the program. */
    private static int fitting(int op) {
        return op == OwnerDominance.OP_NEW ? 0 : op == OwnerDominance.OP_MOVE ? 1 : 10;
    }

    private static void targets() {
        CHECK.says("**S2:** a not in 0..7 gives E_BADOPERAND.");
        for (int op = 1; op <= 7; op++) {
            int b = fitting(op);
            for (int a : Ints.notIn(0, 7)) {
                both(0, op, a, b, BADOPERAND);
                both(MAIN, op, a, b, BADOPERAND);
            }
            for (int a = 1; a <= 7; a++) {
                both(0, op, a, b, OK);
            }
            for (int a = 0; a <= 7 && op != OwnerDominance.OP_RETURN; a++) {
                both(MAIN, op, a, b, OK);
            }
        }
    }

    private static void returnInMain() {
        CHECK.says("**S4:** E_BADOPERAND if K is main and op is OP_RETURN.");
        for (int a = -1; a <= 8; a++) {
            both(MAIN, OwnerDominance.OP_RETURN, a, 0, BADOPERAND);
        }
    }

    private static void assignmentToThis() {
        CHECK.says("Also E_BADOPERAND if K is a class, a == 0, and op is OP_NEW, OP_MOVE, OP_LOAD, OP_CALL or"
                + " OP_NULL.");
        for (int op = 1; op <= 6; op++) {
            boolean leavesThis = op == OwnerDominance.OP_STORE;
            both(0, op, 0, fitting(op), leavesThis ? OK : BADOPERAND);
            both(MAIN, op, 0, fitting(op), OK);
            both(0, op, 1, fitting(op), OK);
        }
        stmt(0, OwnerDominance.OP_RETURN, 0, 0, MISMATCH, OK);
    }

    private static void moves() {
        CHECK.says("**S3:** E_BADOPERAND for OP_MOVE with b not in 0..7");
        int op = OwnerDominance.OP_MOVE;
        for (int b : Ints.notIn(0, 7)) {
            both(0, op, 2, b, BADOPERAND);
            both(MAIN, op, 2, b, BADOPERAND);
        }
        stmt(0, op, 2, 0, MISMATCH, OK);
        for (int b = 0; b <= 7; b++) {
            both(MAIN, op, 2, b, OK);
            if (b > 0) {
                both(0, op, 2, b, OK);
            }
        }
    }

    private static void packed() {
        CHECK.says("or for OP_LOAD, OP_STORE or OP_CALL with b not in 0..63.");
        int[] ops = {OwnerDominance.OP_LOAD, OwnerDominance.OP_STORE, OwnerDominance.OP_CALL};
        for (int op : ops) {
            for (int b : Ints.notIn(0, 63)) {
                both(0, op, 2, b, BADOPERAND);
                both(MAIN, op, 2, b, BADOPERAND);
            }
        }
        for (int b = 0; b <= 63; b++) {
            both(MAIN, OwnerDominance.OP_CALL, 2, b, OK);
            stmt(0, OwnerDominance.OP_CALL, 2, b, b / 8 == 0 ? MISMATCH : OK, OK);
        }
    }

    /** There are three fields, so b = 0..23 names one of them. */
    private static void fields() {
        CHECK.says("Let y = b % 8 and q = b / 8.");
        int[] ops = {OwnerDominance.OP_LOAD, OwnerDominance.OP_STORE};
        for (int op : ops) {
            for (int b = 0; b <= 63; b++) {
                int due = b / 8 < 3 ? OK : BADOPERAND;
                both(MAIN, op, 2, b, due);
                boolean storesThis = op == OwnerDominance.OP_STORE && b % 8 == 0;
                stmt(0, op, 2, b, storesThis && due == OK ? MISMATCH : due, due);
            }
        }
    }

    private static void ignoredOperands() {
        CHECK.says("b is ignored by OP_NULL and OP_RETURN.");
        for (int b : Ints.notIn(0, 0)) {
            both(0, OwnerDominance.OP_NULL, 2, b, OK);
            both(MAIN, OwnerDominance.OP_NULL, 2, b, OK);
            both(0, OwnerDominance.OP_RETURN, 2, b, OK);
        }
    }

    private static void beforeTyping() {
        CHECK.says("Each statement in body K is tested with these tests, in this order:");
        both(0, OwnerDominance.OP_NEW, 8, -1, BADOPERAND);
        both(0, OwnerDominance.OP_NEW, 0, -1, BADOPERAND);
        both(0, OwnerDominance.OP_NEW, 0, 16, BADOPERAND);
        both(MAIN, OwnerDominance.OP_NEW, -1, 32, BADOPERAND);
        both(0, OwnerDominance.OP_MOVE, 0, 1, BADOPERAND);
        both(0, OwnerDominance.OP_MOVE, 0, 0, BADOPERAND);
        both(0, OwnerDominance.OP_LOAD, 0, 1, BADOPERAND);
        both(0, OwnerDominance.OP_CALL, 0, 9, BADOPERAND);
        both(0, OwnerDominance.OP_CALL, 0, 0, BADOPERAND);
    }
}
