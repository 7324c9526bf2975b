/** Promise 5: setLocal. */
public final class Promise05Test {
    private static final Check CHECK = new Check();
    private static final String REFUSED =
            "`setLocal(body, v, type)` is refused, answering false and changing nothing, if any of these holds: .. ";
    private static final int MAIN = OwnerDominance.BODY_MAIN;

    public static void main(String[] args) {
        refusedWhenFrozen();
        refusedBody();
        refusedVariable();
        refusedThisAndParam();
        setsAndOverwrites();
        everyLocalOfEveryBody();
        othersStay();
        CHECK.end();
    }

    private static void refusedWhenFrozen() {
        CHECK.says(REFUSED + "status != ST_EDIT");
        for (OwnerDominance x : Frozen.all()) {
            String before = Snapshot.of(x);
            for (int v = 0; v < 8; v++) {
                CHECK.due("setLocal(8, " + v + ", 77) in status " + x.getStatus(), x.setLocal(MAIN, v, 77), false);
                CHECK.due("setLocal(0, " + v + ", 77) in status " + x.getStatus(), x.setLocal(0, v, 77), false);
            }
            CHECK.same("after setLocal when frozen", Snapshot.of(x), before);
        }
    }

    private static void refusedBody() {
        CHECK.says("A body id is VALID if it is 8 or in 0..classCount-1. .. " + REFUSED + "body is not VALID");
        for (int classes = 0; classes <= 8; classes++) {
            OwnerDominance x = Programs.classes(classes);
            OwnerDominance twin = Programs.classes(classes);
            String before = Snapshot.of(x);
            for (int body : Ints.notBodies(classes)) {
                for (int v = 0; v < 8; v++) {
                    CHECK.due("setLocal(" + body + ", " + v + ", 5) of " + classes, x.setLocal(body, v, 5), false);
                }
            }
            CHECK.same("after refused calls", Snapshot.of(x), before);
            CHECK.due("setLocal(8, 2, 6)", x.setLocal(MAIN, 2, 6), true);
            CHECK.due("setLocal of the last class", x.setLocal(classes - 1, 3, 7), classes > 0);
            twin.setLocal(MAIN, 2, 6);
            twin.setLocal(classes - 1, 3, 7);
            CHECK.same("with eight classes", Snapshot.withEightClasses(x), Snapshot.withEightClasses(twin));
        }
    }

    private static void refusedVariable() {
        CHECK.says(REFUSED + "v is not in 0..7");
        OwnerDominance x = Programs.classes(8);
        String before = Snapshot.of(x);
        for (int v : Ints.notIn(0, 7)) {
            for (int body = 0; body <= MAIN; body++) {
                CHECK.due("setLocal(" + body + ", " + v + ", 5)", x.setLocal(body, v, 5), false);
            }
        }
        CHECK.same("after refused calls", Snapshot.of(x), before);
        CHECK.due("setLocal(8, 0, 5)", x.setLocal(MAIN, 0, 5), true);
        for (int body = 0; body <= MAIN; body++) {
            CHECK.due("setLocal(" + body + ", 7, 5)", x.setLocal(body, 7, 5), true);
        }
    }

    private static void refusedThisAndParam() {
        CHECK.says(REFUSED + "body is a class and v < 2");
        OwnerDominance x = Programs.classes(8);
        String before = Snapshot.of(x);
        for (int cls = 0; cls < 8; cls++) {
            CHECK.due("setLocal(" + cls + ", 0, 5)", x.setLocal(cls, 0, 5), false);
            CHECK.due("setLocal(" + cls + ", 1, 5)", x.setLocal(cls, 1, 5), false);
        }
        CHECK.same("after refused calls", Snapshot.of(x), before);
        for (int cls = 0; cls < 8; cls++) {
            CHECK.due("setLocal(" + cls + ", 2, 5)", x.setLocal(cls, 2, 5), true);
        }
        CHECK.due("setLocal(8, 0, 5)", x.setLocal(MAIN, 0, 5), true);
        CHECK.due("setLocal(8, 1, 6)", x.setLocal(MAIN, 1, 6), true);
    }

    private static void setsAndOverwrites() {
        CHECK.says("Otherwise it sets decl(v) of that body to `type`, stored exactly as given and overwriting"
                + " any earlier value, and answers true.");
        OwnerDominance x = Programs.classes(1);
        for (int type : Ints.ANY) {
            for (int v = 0; v < 8; v++) {
                CHECK.due("setLocal(8, " + v + ", " + type + ")", x.setLocal(MAIN, v, type), true);
                CHECK.due("getDecl(8, " + (8 + v) + ")", x.getDecl(MAIN, 8 + v), type);
                if (v >= 2) {
                    CHECK.due("setLocal(0, " + v + ", " + type + ")", x.setLocal(0, v, type), true);
                    CHECK.due("getDecl(0, " + (8 + v) + ")", x.getDecl(0, 8 + v), type);
                }
            }
        }
    }

    private static void everyLocalOfEveryBody() {
        CHECK.says("v2..v7 come from `setLocal`. In main, v0..v7 all come from `setLocal`.");
        OwnerDominance x = Programs.classes(8);
        for (int body = MAIN; body >= 0; body--) {
            for (int v = body == MAIN ? 0 : 2; v < 8; v++) {
                CHECK.due("setLocal(" + body + ", " + v + ", ..)", x.setLocal(body, v, 10 * body + v), true);
            }
        }
        int[] self = {0x10, 0x311, 0x4312, 0x13, 0x314, 0x4315, 0x16, 0x317};
        for (int body = 0; body <= MAIN; body++) {
            for (int v = body == MAIN ? 0 : 2; v < 8; v++) {
                CHECK.due("decl(v" + v + ") of " + body, x.getDecl(body, 8 + v), 10 * body + v);
            }
            if (body < MAIN) {
                CHECK.due("decl(v0) of " + body, x.getDecl(body, 8), self[body]);
                CHECK.due("decl(v1) of " + body, x.getDecl(body, 9), 0);
            }
        }
    }

    private static void othersStay() {
        CHECK.says("`setLocal(body, v, type)` .. Nothing else changes.");
        for (int body = 0; body <= MAIN; body++) {
            for (int v = body == MAIN ? 0 : 2; v < 8; v++) {
                OwnerDominance x = Programs.classes(8);
                x.addField(0, -3);
                x.setSignature(1, 4, 5);
                x.addStmt(2, 6, 2, 0);
                x.addStmt(MAIN, 6, 2, 0);
                x.compile(1);
                String before = Snapshot.of(x);
                x.setLocal(body, v, 77);
                CHECK.same("what changed", Snapshot.changes(before, Snapshot.of(x)), "0->77");
                CHECK.due("the local", x.getDecl(body, 8 + v), 77);
            }
        }
    }
}
