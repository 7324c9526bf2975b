/** Promise 14: getStmt. */
public final class Promise14Test {
    private static final Check CHECK = new Check();
    private static final int[] FAR = {-1, -2, 3, 16, 17, 1000, Integer.MIN_VALUE, Integer.MAX_VALUE};

    public static void main(String[] args) {
        everyPart();
        wrongArguments();
        everyStatus();
        CHECK.end();
    }

    private static void part(OwnerDominance x, int body, int index, int part, int due) {
        CHECK.due("getStmt(" + body + ", " + index + ", " + part + ")", x.getStmt(body, index, part), due);
    }

    private static void everyPart() {
        OwnerDominance x = new OwnerDominance(8);
        for (int c = 0; c < 8; c++) {
            x.addClass(0);
        }
        for (int body = 0; body <= 8; body++) {
            for (int i = 0; i < 16; i++) {
                x.addStmt(body, 100 * body + i, -100 * body - i, 7 * i);
            }
        }
        String before = Snapshot.of(x);
        for (int body = 0; body <= 8; body++) {
            for (int i = 0; i < 16; i++) {
                part(x, body, i, 0, 100 * body + i);
                part(x, body, i, 1, -100 * body - i);
                part(x, body, i, 2, 7 * i);
            }
            part(x, body, 16, 0, -2);
        }
        CHECK.same("after reading", Snapshot.of(x), before);
    }

    private static void wrongArguments() {
        OwnerDominance x = new OwnerDominance(8);
        x.addClass(0);
        x.addStmt(0, 1, 2, 3);
        x.addStmt(0, 4, 5, 6);
        x.addStmt(8, 7, 8, 9);
        String before = Snapshot.of(x);
        for (int far : FAR) {
            part(x, 0, 0, far, -2);
            part(x, 8, 0, far, -2);
            part(x, 0, far, 0, -2);
            part(x, 8, far, 0, -2);
            part(x, far, 0, 0, -2);
            part(x, far, far, far, -2);
        }
        int[] noBody = {1, 2, 7, 9};
        for (int body : noBody) {
            part(x, body, 0, 0, -2);
        }
        for (int p = 0; p < 3; p++) {
            part(x, 0, 2, p, -2);
            part(x, 8, 1, p, -2);
            part(x, 0, 1, p, 4 + p);
            part(x, 8, 0, p, 7 + p);
        }
        CHECK.same("after reading", Snapshot.of(x), before);
        x.addClass(0);
        part(x, 1, 0, 0, -2);
    }

    private static void everyStatus() {
        for (OwnerDominance x : Frozen.all()) {
            part(x, 8, 0, 0, OwnerDominance.OP_NEW);
            part(x, 8, 0, 2, 0);
            part(x, 8, 5, 0, -2);
            part(x, 1, 0, 0, -2);
        }
        part(Frozen.done(), 8, 0, 1, 3);
        part(Frozen.violation(), 0, 1, 0, OwnerDominance.OP_RETURN);
        part(Frozen.violation(), 0, 1, 1, 2);
    }
}
