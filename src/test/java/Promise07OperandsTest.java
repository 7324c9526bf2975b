/** Promise 7: the statement tests S1 to S4, and that they come before S5. */
public final class Promise07OperandsTest {
    private static final Check CHECK = new Check();
    private static final int OK = OwnerDominance.E_OK;
    private static final int BADOPERAND = OwnerDominance.E_BADOPERAND;
    private static final int MISMATCH = OwnerDominance.E_MISMATCH;
    private static final int MAIN = OwnerDominance.BODY_MAIN;
    private static final int[] FAR = {-1, -2, -8, -64, 1000, Integer.MIN_VALUE, Integer.MAX_VALUE};

    public static void main(String[] args) {
        operations();
        targets();
        moves();
        fields();
        calls();
        returns();
        ignoredOperands();
        beforeTyping();
        CHECK.end();
    }

    /** Every type is the type word 0, but for v0 of the class body, whose self type is 0x10. */
    private static void stmt(int body, int op, int a, int b, int checked, int unchecked) {
        int[] due = {unchecked, checked};
        for (int mode = 0; mode <= 1; mode++) {
            OwnerDominance x = new OwnerDominance(8);
            x.addClass(0);
            for (int f = 0; f < 3; f++) {
                x.addField(0, 0);
            }
            x.addStmt(body, OwnerDominance.OP_NULL, 3, 0);
            x.addStmt(body, op, a, b);
            String what = "body " + body + ", (" + op + ", " + a + ", " + b + ")";
            CHECK.due(what + ": compile(" + mode + ")", x.compile(mode), due[mode]);
            CHECK.due(what + ": getErrorAt()", x.getErrorAt(), due[mode] == OK ? -1 : body * 32 + 17);
        }
    }

    private static void both(int body, int op, int a, int b, int due) {
        stmt(body, op, a, b, due, due);
    }

    private static void operations() {
        int[] wrong = {0, 8, 9, 16, -1, -7, Integer.MIN_VALUE, Integer.MAX_VALUE};
        for (int op : wrong) {
            both(0, op, 2, 1, BADOPERAND);
            both(MAIN, op, 2, 1, BADOPERAND);
        }
        for (int op = 1; op <= 6; op++) {
            int b = op == OwnerDominance.OP_NEW ? 0 : 10;
            both(0, op, 2, op == OwnerDominance.OP_MOVE ? 1 : b, OK);
            both(MAIN, op, 2, op == OwnerDominance.OP_MOVE ? 1 : b, OK);
        }
    }

    private static void targets() {
        for (int op = 1; op <= 7; op++) {
            int b = op == OwnerDominance.OP_NEW ? 0 : op == OwnerDominance.OP_MOVE ? 1 : 10;
            for (int a : FAR) {
                both(0, op, a, b, BADOPERAND);
                both(MAIN, op, a, b, BADOPERAND);
            }
            both(0, op, 8, b, BADOPERAND);
            both(MAIN, op, 8, b, BADOPERAND);
            for (int a = 1; a <= 7; a++) {
                both(0, op, a, b, OK);
            }
            boolean leavesThis = op == OwnerDominance.OP_STORE;
            if (op != OwnerDominance.OP_RETURN) {
                both(0, op, 0, b, leavesThis ? OK : BADOPERAND);
                for (int a = 0; a <= 7; a++) {
                    both(MAIN, op, a, b, OK);
                }
            }
        }
    }

    private static void moves() {
        int op = OwnerDominance.OP_MOVE;
        for (int b : FAR) {
            both(0, op, 2, b, BADOPERAND);
            both(MAIN, op, 2, b, BADOPERAND);
        }
        both(0, op, 2, 8, BADOPERAND);
        both(MAIN, op, 2, 8, BADOPERAND);
        stmt(0, op, 2, 0, MISMATCH, OK);
        for (int b = 0; b <= 7; b++) {
            both(MAIN, op, 2, b, OK);
            if (b > 0) {
                both(0, op, 2, b, OK);
            }
        }
    }

    private static void fields() {
        int[] ops = {OwnerDominance.OP_LOAD, OwnerDominance.OP_STORE};
        for (int op : ops) {
            for (int b : FAR) {
                both(0, op, 2, b, BADOPERAND);
                both(MAIN, op, 2, b, BADOPERAND);
            }
            both(0, op, 2, 64, BADOPERAND);
            both(MAIN, op, 2, 64, BADOPERAND);
            for (int b = 0; b <= 63; b++) {
                int due = b / 8 < 3 ? OK : BADOPERAND;
                both(MAIN, op, 2, b, due);
                boolean storesThis = op == OwnerDominance.OP_STORE && b % 8 == 0;
                stmt(0, op, 2, b, storesThis && due == OK ? MISMATCH : due, due);
            }
        }
    }

    private static void calls() {
        int op = OwnerDominance.OP_CALL;
        for (int b : FAR) {
            both(0, op, 2, b, BADOPERAND);
            both(MAIN, op, 2, b, BADOPERAND);
        }
        both(0, op, 2, 64, BADOPERAND);
        both(MAIN, op, 2, 64, BADOPERAND);
        for (int b = 0; b <= 63; b++) {
            both(MAIN, op, 2, b, OK);
            stmt(0, op, 2, b, b / 8 == 0 ? MISMATCH : OK, OK);
        }
    }

    private static void returns() {
        int op = OwnerDominance.OP_RETURN;
        stmt(0, op, 0, 0, MISMATCH, OK);
        for (int a = -1; a <= 8; a++) {
            both(MAIN, op, a, 0, BADOPERAND);
            if (a > 0) {
                both(0, op, a, 0, a < 8 ? OK : BADOPERAND);
            }
        }
    }

    private static void ignoredOperands() {
        for (int b : FAR) {
            both(0, OwnerDominance.OP_NULL, 2, b, OK);
            both(MAIN, OwnerDominance.OP_NULL, 2, b, OK);
            both(0, OwnerDominance.OP_RETURN, 2, b, OK);
        }
    }

    private static void beforeTyping() {
        both(0, OwnerDominance.OP_NEW, 8, -1, BADOPERAND);
        both(0, OwnerDominance.OP_NEW, 0, -1, BADOPERAND);
        both(0, OwnerDominance.OP_NEW, 0, 16, BADOPERAND);
        both(MAIN, OwnerDominance.OP_NEW, -1, 32, BADOPERAND);
        both(0, OwnerDominance.OP_MOVE, 0, 1, BADOPERAND);
        both(0, OwnerDominance.OP_MOVE, 0, 0, BADOPERAND);
        both(0, OwnerDominance.OP_LOAD, 0, 1, BADOPERAND);
        both(0, OwnerDominance.OP_CALL, 0, 9, BADOPERAND);
        both(0, OwnerDominance.OP_CALL, 0, 0, BADOPERAND);
    }
}
