/** Promise 14: getStmt. */
public final class Promise14Test {
    private static final Check CHECK = new Check();
    private static final String HOLDS = "This holds when body is VALID, index is in 0..count-1 of that body, and part"
            + " is in 0..2.";
    private static final int MAIN = OwnerDominance.BODY_MAIN;

    public static void main(String[] args) {
        everyPart();
        noSuchBody();
        noSuchIndex();
        noSuchPart();
        indexOfEveryCount();
        everyStatus();
        changesNothing();
        CHECK.end();
    }

    private static void part(OwnerDominance x, int body, int index, int part, int due) {
        CHECK.due("getStmt(" + body + ", " + index + ", " + part + ")", x.getStmt(body, index, part), due);
    }

    private static OwnerDominance fullProgram() {
        OwnerDominance x = new OwnerDominance(8);
        for (int c = 0; c < 8; c++) {
            x.addClass(0);
        }
        for (int body = 0; body <= MAIN; body++) {
            for (int i = 0; i < 16; i++) {
                x.addStmt(body, 100 * body + i, -100 * body - i - 3, 7 * i);
            }
        }
        return x;
    }

    private static void everyPart() {
        CHECK.says("`getStmt(body, index, part)` answers the stored op, a or b for part 0, 1 or 2.");
        OwnerDominance x = fullProgram();
        for (int body = 0; body <= MAIN; body++) {
            for (int i = 0; i < 16; i++) {
                part(x, body, i, 0, 100 * body + i);
                part(x, body, i, 1, -100 * body - i - 3);
                part(x, body, i, 2, 7 * i);
            }
        }
    }

    private static void noSuchBody() {
        CHECK.says("A body id is VALID if it is 8 or in 0..classCount-1. .. " + HOLDS + " Otherwise it answers -2.");
        for (int classes = 0; classes <= 8; classes++) {
            OwnerDominance x = new OwnerDominance(8);
            for (int c = 0; c < classes; c++) {
                x.addClass(0);
                x.addStmt(c, 1, 2, 3);
            }
            x.addStmt(MAIN, 4, 5, 6);
            for (int body : Ints.notBodies(classes)) {
                for (int p = -1; p <= 3; p++) {
                    part(x, body, 0, p, -2);
                }
            }
            for (int c = 0; c < classes; c++) {
                part(x, c, 0, 2, 3);
            }
            part(x, MAIN, 0, 2, 6);
        }
    }

    private static void noSuchIndex() {
        CHECK.says("index is in 0..count-1 of that body, and part is in 0..2. Otherwise it answers -2.");
        OwnerDominance x = fullProgram();
        for (int index : Ints.notIn(0, 15)) {
            for (int body = -1; body <= 9; body++) {
                for (int p = 0; p < 3; p++) {
                    part(x, body, index, p, -2);
                }
            }
        }
    }

    private static void noSuchPart() {
        CHECK.says("and part is in 0..2. Otherwise it answers -2.");
        OwnerDominance x = fullProgram();
        for (int p : Ints.notIn(0, 2)) {
            for (int body = 0; body <= MAIN; body++) {
                part(x, body, 0, p, -2);
                part(x, body, 15, p, -2);
                part(x, body, 16, p, -2);
            }
        }
    }

    /** Each body has its own count: one is empty, one is full, the others lie between. */
    private static void indexOfEveryCount() {
        CHECK.says("index is in 0..count-1 of that body");
        OwnerDominance x = new OwnerDominance(8);
        for (int c = 0; c < 8; c++) {
            x.addClass(0);
        }
        for (int body = 0; body <= MAIN; body++) {
            for (int i = 0; i < 2 * body; i++) {
                x.addStmt(body, 5, 6, 7);
            }
        }
        for (int body = 0; body <= MAIN; body++) {
            for (int i = -1; i <= 17; i++) {
                for (int p = 0; p < 3; p++) {
                    part(x, body, i, p, i >= 0 && i < 2 * body ? 5 + p : -2);
                }
            }
        }
    }

    private static void everyStatus() {
        CHECK.says("Otherwise it answers -2. It works in every status");
        for (OwnerDominance x : Frozen.all()) {
            part(x, MAIN, 0, 0, OwnerDominance.OP_NEW);
            part(x, MAIN, 0, 2, 0);
            part(x, MAIN, 5, 0, -2);
            part(x, 1, 0, 0, -2);
            part(x, MAIN, x.getDecl(MAIN, 16), 0, -2);
        }
        part(Frozen.done(), MAIN, 0, 1, 3);
        part(Frozen.violation(), 0, 1, 0, OwnerDominance.OP_RETURN);
        part(Frozen.violation(), 0, 1, 1, 2);
    }

    private static void changesNothing() {
        CHECK.says("Otherwise it answers -2. It works in every status and changes nothing.");
        OwnerDominance[] objects = {fullProgram(), Frozen.running(), new OwnerDominance(8)};
        for (OwnerDominance x : objects) {
            String before = Snapshot.of(x);
            for (int body : Ints.ANY) {
                for (int index : Ints.ANY) {
                    x.getStmt(body, index, 0);
                    x.getStmt(body, 0, index);
                    x.getStmt(MAIN, body, index);
                }
            }
            CHECK.same("after reading", Snapshot.of(x), before);
        }
    }
}
