/** Promise 2: addClass. */
public final class Promise02Test {
    private static final Check CHECK = new Check();
    private static final String REFUSED =
            "`addClass(formals)` is refused, answering -1 and changing nothing, if any of these holds: .. ";

    public static void main(String[] args) {
        refusedWhenFrozen();
        refusedFormals();
        refusedWhenFull();
        idsInOrder();
        newClassIsEmpty();
        selfAndParam();
        othersStay();
        CHECK.end();
    }

    private static void refusedWhenFrozen() {
        CHECK.says(REFUSED + "status != ST_EDIT");
        for (OwnerDominance x : Frozen.all()) {
            String before = Snapshot.of(x);
            for (int formals = 0; formals <= 2; formals++) {
                CHECK.due("addClass(" + formals + ") in status " + x.getStatus(), x.addClass(formals), -1);
            }
            CHECK.same("after addClass when frozen", Snapshot.of(x), before);
        }
    }

    private static void refusedFormals() {
        CHECK.says(REFUSED + "formals is not in 0..2");
        OwnerDominance x = new OwnerDominance(8);
        for (int classes = 0; classes < 2; classes++) {
            String before = Snapshot.of(x);
            for (int formals : Ints.notIn(0, 2)) {
                CHECK.due("addClass(" + formals + ")", x.addClass(formals), -1);
            }
            CHECK.same("after refused calls", Snapshot.of(x), before);
            CHECK.due("addClass(2)", x.addClass(2), classes);
            CHECK.due("formals", x.getDecl(classes, 6), 2);
        }
        for (int formals = 0; formals <= 2; formals++) {
            CHECK.due("addClass(" + formals + ")", x.addClass(formals), 2 + formals);
            CHECK.due("formals", x.getDecl(2 + formals, 6), formals);
        }
    }

    private static void refusedWhenFull() {
        CHECK.says(REFUSED + "8 classes already exist");
        OwnerDominance x = new OwnerDominance(8);
        for (int id = 0; id < 8; id++) {
            CHECK.due("addClass", x.addClass(id % 3), id);
        }
        String before = Snapshot.of(x);
        for (int i = 0; i < 3; i++) {
            for (int formals = -1; formals <= 3; formals++) {
                CHECK.due("the ninth addClass", x.addClass(formals), -1);
            }
        }
        CHECK.same("after the ninth class", Snapshot.of(x), before);
        CHECK.due("compile(1)", x.compile(1), OwnerDominance.E_OK);
    }

    private static void idsInOrder() {
        CHECK.says("There are up to 8 classes, with ids 0..7 in order of creation, and one main body."
                + " .. Otherwise it creates class id = classCount and answers that id; classCount grows by one.");
        OwnerDominance x = new OwnerDominance(8);
        for (int id = 0; id < 8; id++) {
            CHECK.due("getDecl(" + id + ", 6) before", x.getDecl(id, 6), -2);
            CHECK.due("addClass", x.addClass(2 - id % 3), id);
            CHECK.due("getDecl(" + id + ", 6)", x.getDecl(id, 6), 2 - id % 3);
        }
    }

    private static void newClassIsEmpty() {
        CHECK.says("The new class has: formals(id) = formals; no fields; param and return equal to 0;"
                + " an empty body; locals v2..v7 equal to 0.");
        OwnerDominance x = new OwnerDominance(8);
        for (int id = 0; id < 8; id++) {
            x.addClass(id % 3);
            CHECK.due("formals", x.getDecl(id, 6), id % 3);
            CHECK.due("fieldCount", x.getDecl(id, 7), 0);
            for (int f = 0; f < 4; f++) {
                CHECK.due("field " + f, x.getDecl(id, f), -2);
            }
            CHECK.due("param", x.getDecl(id, 4), 0);
            CHECK.due("return", x.getDecl(id, 5), 0);
            CHECK.due("statements", x.getDecl(id, 16), 0);
            CHECK.due("the first statement", x.getStmt(id, 0, 0), -2);
            for (int v = 2; v < 8; v++) {
                CHECK.due("decl(v" + v + ")", x.getDecl(id, 8 + v), 0);
            }
            fill(x, id);
        }
    }

    /** A class that is full of other numbers than 0, which the next class must not see. */
    private static void fill(OwnerDominance x, int id) {
        x.setSignature(id, 71, 72);
        for (int f = 0; f < 5; f++) {
            x.addField(id, 73);
        }
        for (int v = 2; v < 9; v++) {
            x.setLocal(id, v, 74);
        }
        for (int i = 0; i < 17; i++) {
            x.addStmt(id, 75, 76, 77);
        }
    }

    private static void selfAndParam() {
        CHECK.says("Its decl(v0) is self(id) and its decl(v1) is param(id).");
        int[] withNone = {0x10, 0x11, 0x12, 0x13, 0x14, 0x15, 0x16, 0x17};
        int[] withOne = {0x310, 0x311, 0x312, 0x313, 0x314, 0x315, 0x316, 0x317};
        int[] withTwo = {0x4310, 0x4311, 0x4312, 0x4313, 0x4314, 0x4315, 0x4316, 0x4317};
        int[][] self = {withNone, withOne, withTwo};
        for (int first = 0; first <= 2; first++) {
            OwnerDominance x = new OwnerDominance(8);
            for (int id = 0; id < 8; id++) {
                int formals = (first + id) % 3;
                x.addClass(formals);
                CHECK.due("decl(v0)", x.getDecl(id, 8), self[formals][id]);
                CHECK.due("decl(v1)", x.getDecl(id, 9), 0);
            }
            for (int id = 0; id < 8; id++) {
                CHECK.due("decl(v0) at the end", x.getDecl(id, 8), self[(first + id) % 3][id]);
            }
        }
    }

    private static void othersStay() {
        CHECK.says("`addClass(formals)` .. Nothing else changes.");
        OwnerDominance x = new OwnerDominance(8);
        x.addClass(2);
        x.addField(0, 7);
        x.setSignature(0, 8, 9);
        x.setLocal(0, 5, 10);
        x.addStmt(0, 1, 2, 3);
        x.setLocal(8, 0, 11);
        x.addStmt(8, 4, 5, 6);
        x.compile(1);
        String before = Snapshot.of(x);
        x.addClass(1);
        CHECK.same("what changed", Snapshot.changes(before, Snapshot.of(x)), "-2->0 -2->0 -2->1 -2->0 -2->"
                + 0x311 + " -2->0 -2->0 -2->0 -2->0 -2->0 -2->0 -2->0 -2->0");
    }
}
