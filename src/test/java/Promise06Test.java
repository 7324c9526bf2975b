/** Promise 6: addStmt. */
public final class Promise06Test {
    private static final Check CHECK = new Check();
    private static final String REFUSED =
            "`addStmt(body, op, a, b)` is refused, answering -1 and changing nothing, if any of these holds: .. ";
    private static final int MAIN = OwnerDominance.BODY_MAIN;

    public static void main(String[] args) {
        refusedWhenFrozen();
        refusedBody();
        refusedWhenFull();
        mainIsFull();
        indexInOrder();
        anyNumbersAreStored();
        othersStay();
        CHECK.end();
    }

    private static void refusedWhenFrozen() {
        CHECK.says(REFUSED + "status != ST_EDIT");
        for (OwnerDominance x : Frozen.all()) {
            String before = Snapshot.of(x);
            CHECK.due("addStmt(8, 6, 0, 0) in status " + x.getStatus(), x.addStmt(MAIN, 6, 0, 0), -1);
            CHECK.due("addStmt(0, 6, 2, 0) in status " + x.getStatus(), x.addStmt(0, 6, 2, 0), -1);
            CHECK.same("after addStmt when frozen", Snapshot.of(x), before);
        }
    }

    private static void refusedBody() {
        CHECK.says("A body id is VALID if it is 8 or in 0..classCount-1. .. " + REFUSED + "body is not VALID");
        for (int classes = 0; classes <= 8; classes++) {
            OwnerDominance x = Programs.classes(classes);
            OwnerDominance twin = Programs.classes(classes);
            String before = Snapshot.of(x);
            for (int body : Ints.notBodies(classes)) {
                CHECK.due("addStmt(" + body + ", 6, 2, 0) of " + classes, x.addStmt(body, 6, 2, 0), -1);
            }
            CHECK.same("after refused calls", Snapshot.of(x), before);
            CHECK.due("addStmt(8, 6, 2, 0)", x.addStmt(MAIN, 6, 2, 0), 0);
            CHECK.due("addStmt of the last class", x.addStmt(classes - 1, 6, 3, 0), classes > 0 ? 0 : -1);
            twin.addStmt(MAIN, 6, 2, 0);
            twin.addStmt(classes - 1, 6, 3, 0);
            CHECK.same("with eight classes", Snapshot.withEightClasses(x), Snapshot.withEightClasses(twin));
        }
    }

    private static OwnerDominance full() {
        OwnerDominance x = Programs.classes(8);
        for (int i = 0; i < 16; i++) {
            for (int body = 0; body <= MAIN; body++) {
                int mark = 100 * body + i;
                x.addStmt(body, mark, mark + 1, mark + 2);
            }
        }
        return x;
    }

    private static void refusedWhenFull() {
        CHECK.says("a body of at most 16 statements. .. " + REFUSED + "the body already has 16 statements");
        OwnerDominance x = full();
        String before = Snapshot.of(x);
        for (int cls = 0; cls < 8; cls++) {
            CHECK.due("statements of " + cls, x.getDecl(cls, 16), 16);
            CHECK.due("the seventeenth addStmt of " + cls, x.addStmt(cls, 6, 2, 0), -1);
            CHECK.due("the seventeenth addStmt of " + cls + " again", x.addStmt(cls, 6, 2, 0), -1);
        }
        CHECK.same("after the seventeenth", Snapshot.of(x), before);
    }

    private static void mainIsFull() {
        CHECK.says("Main also has at most 16 statements.");
        OwnerDominance x = full();
        String before = Snapshot.of(x);
        CHECK.due("statements of main", x.getDecl(MAIN, 16), 16);
        CHECK.due("the seventeenth addStmt of main", x.addStmt(MAIN, 6, 2, 0), -1);
        CHECK.due("the seventeenth addStmt of main again", x.addStmt(MAIN, 6, 2, 0), -1);
        CHECK.same("after the seventeenth", Snapshot.of(x), before);
    }

    private static void indexInOrder() {
        CHECK.says("Otherwise it appends (op, a, b) exactly as given, for any int values, and answers its index,"
                + " which is the old statement count (0..15).");
        OwnerDominance x = Programs.classes(8);
        for (int i = 0; i < 16; i++) {
            for (int body = MAIN; body >= 0; body--) {
                int mark = 100 * body + i;
                CHECK.due("addStmt(" + body + ", ..)", x.addStmt(body, mark, mark + 1, mark + 2), i);
                CHECK.due("statements of " + body, x.getDecl(body, 16), i + 1);
            }
        }
        for (int body = 0; body <= MAIN; body++) {
            for (int i = 0; i < 16; i++) {
                for (int part = 0; part < 3; part++) {
                    CHECK.due("getStmt", x.getStmt(body, i, part), 100 * body + i + part);
                }
            }
        }
    }

    private static void anyNumbersAreStored() {
        CHECK.says("Otherwise it appends (op, a, b) exactly as given, for any int values");
        for (int first : Ints.ANY) {
            for (int second : Ints.ANY) {
                OwnerDominance x = new OwnerDominance(8);
                CHECK.due("addStmt", x.addStmt(MAIN, first, second, first), 0);
                CHECK.due("addStmt", x.addStmt(MAIN, second, first, second), 1);
                CHECK.due("getStmt(8, 0, 0)", x.getStmt(MAIN, 0, 0), first);
                CHECK.due("getStmt(8, 0, 1)", x.getStmt(MAIN, 0, 1), second);
                CHECK.due("getStmt(8, 0, 2)", x.getStmt(MAIN, 0, 2), first);
                CHECK.due("getStmt(8, 1, 0)", x.getStmt(MAIN, 1, 0), second);
                CHECK.due("getStmt(8, 1, 1)", x.getStmt(MAIN, 1, 1), first);
                CHECK.due("getStmt(8, 1, 2)", x.getStmt(MAIN, 1, 2), second);
            }
        }
    }

    private static void othersStay() {
        CHECK.says("`addStmt(body, op, a, b)` .. Nothing else changes.");
        for (int body = 0; body <= MAIN; body++) {
            OwnerDominance x = Programs.classes(8);
            x.addField(0, -3);
            x.setSignature(1, 4, 5);
            x.setLocal(2, 7, 6);
            x.compile(1);
            for (int i = 0; i < 16; i++) {
                String before = Snapshot.of(x);
                x.addStmt(body, 70, 71, 72);
                CHECK.same("what changed", Snapshot.changes(before, Snapshot.of(x)),
                        i + "->" + (i + 1) + " -2->70 -2->71 -2->72");
            }
        }
    }
}
