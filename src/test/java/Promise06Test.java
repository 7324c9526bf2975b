/** Promise 6: addStmt. */
public final class Promise06Test {
    private static final Check CHECK = new Check();
    private static final int[] ANY = {0, 1, -1, -2, 8, 64, Integer.MIN_VALUE, Integer.MAX_VALUE};

    public static void main(String[] args) {
        wrongBody();
        sixteenStatements();
        anyNumbersAreStored();
        frozen();
        CHECK.end();
    }

    private static void wrongBody() {
        OwnerDominance x = new OwnerDominance(8);
        CHECK.due("addStmt(0, 6, 2, 0) without a class", x.addStmt(0, 6, 2, 0), -1);
        x.addClass(0);
        x.addClass(0);
        String before = Snapshot.of(x);
        int[] wrong = {-1, 2, 3, 7, 9, 10, 100, Integer.MIN_VALUE, Integer.MAX_VALUE};
        for (int body : wrong) {
            CHECK.due("addStmt(" + body + ", 6, 2, 0)", x.addStmt(body, 6, 2, 0), -1);
        }
        CHECK.same("after refused calls", Snapshot.of(x), before);
    }

    private static void sixteenStatements() {
        OwnerDominance x = new OwnerDominance(8);
        for (int c = 0; c < 8; c++) {
            x.addClass(0);
        }
        for (int i = 0; i < 16; i++) {
            for (int body = 8; body >= 0; body--) {
                int mark = 100 * body + i;
                CHECK.due("addStmt(" + body + ", ..)", x.addStmt(body, mark, mark + 1, mark + 2), i);
                CHECK.due("statements of " + body, x.getDecl(body, 16), i + 1);
            }
        }
        String before = Snapshot.of(x);
        for (int body = 0; body <= 8; body++) {
            CHECK.due("the seventeenth addStmt of " + body, x.addStmt(body, 6, 2, 0), -1);
        }
        CHECK.same("after the seventeenth", Snapshot.of(x), before);
        for (int body = 0; body <= 8; body++) {
            for (int i = 0; i < 16; i++) {
                for (int part = 0; part < 3; part++) {
                    CHECK.due("getStmt", x.getStmt(body, i, part), 100 * body + i + part);
                }
            }
        }
    }

    private static void anyNumbersAreStored() {
        for (int first : ANY) {
            for (int second : ANY) {
                OwnerDominance x = new OwnerDominance(8);
                CHECK.due("addStmt", x.addStmt(8, first, second, first), 0);
                CHECK.due("addStmt", x.addStmt(8, second, first, second), 1);
                CHECK.due("getStmt(8, 0, 0)", x.getStmt(8, 0, 0), first);
                CHECK.due("getStmt(8, 0, 1)", x.getStmt(8, 0, 1), second);
                CHECK.due("getStmt(8, 0, 2)", x.getStmt(8, 0, 2), first);
                CHECK.due("getStmt(8, 1, 0)", x.getStmt(8, 1, 0), second);
                CHECK.due("getStmt(8, 1, 1)", x.getStmt(8, 1, 1), first);
                CHECK.due("getStmt(8, 1, 2)", x.getStmt(8, 1, 2), second);
            }
        }
    }

    private static void frozen() {
        for (OwnerDominance x : Frozen.all()) {
            String before = Snapshot.of(x);
            CHECK.due("addStmt when frozen", x.addStmt(8, 6, 0, 0), -1);
            CHECK.due("addStmt when frozen", x.addStmt(0, 6, 2, 0), -1);
            CHECK.same("after addStmt when frozen", Snapshot.of(x), before);
        }
    }
}
