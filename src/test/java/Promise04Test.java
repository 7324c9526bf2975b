/** Promise 4: setSignature. */
public final class Promise04Test {
    private static final Check CHECK = new Check();
    private static final String REFUSED = "`setSignature(cls, paramType, retType)` is refused, answering false"
            + " and changing nothing, if any of these holds: .. ";

    public static void main(String[] args) {
        refusedWhenFrozen();
        refusedClass();
        overwrites();
        anyTypesAreStored();
        firstLocalFollows();
        othersStay();
        CHECK.end();
    }

    private static void refusedWhenFrozen() {
        CHECK.says(REFUSED + "status != ST_EDIT");
        for (OwnerDominance x : Frozen.all()) {
            String before = Snapshot.of(x);
            CHECK.due("setSignature(0, 77, 78) in status " + x.getStatus(), x.setSignature(0, 77, 78), false);
            CHECK.same("after setSignature when frozen", Snapshot.of(x), before);
        }
    }

    private static void refusedClass() {
        CHECK.says(REFUSED + "cls is not in 0..classCount-1");
        for (int classes = 0; classes <= 8; classes++) {
            OwnerDominance x = Programs.classes(classes);
            String before = Snapshot.of(x);
            for (int cls : Ints.notIn(0, classes - 1)) {
                CHECK.due("setSignature(" + cls + ", 5, 6) of " + classes, x.setSignature(cls, 5, 6), false);
            }
            CHECK.same("after refused calls", Snapshot.of(x), before);
            if (classes > 0) {
                CHECK.due("setSignature of the last class", x.setSignature(classes - 1, 7, 8), true);
            }
            OwnerDominance twin = Programs.classes(classes);
            twin.setSignature(classes - 1, 7, 8);
            CHECK.same("with eight classes", Snapshot.withEightClasses(x), Snapshot.withEightClasses(twin));
        }
    }

    private static void overwrites() {
        CHECK.says("Otherwise it sets param(cls) = paramType and ret(cls) = retType, overwriting earlier values,"
                + " and answers true.");
        OwnerDominance x = Programs.classes(8);
        for (int round = 0; round < 3; round++) {
            for (int c = 7; c >= 0; c--) {
                CHECK.due("setSignature(" + c + ", ..)", x.setSignature(c, 10 * round + c, 100 * round + c), true);
            }
            for (int c = 0; c < 8; c++) {
                CHECK.due("param of " + c, x.getDecl(c, 4), 10 * round + c);
                CHECK.due("return of " + c, x.getDecl(c, 5), 100 * round + c);
            }
        }
    }

    private static void anyTypesAreStored() {
        CHECK.says("Both are stored exactly as given for any int values.");
        OwnerDominance x = Programs.classes(1);
        for (int param : Ints.ANY) {
            for (int ret : Ints.ANY) {
                CHECK.due("setSignature", x.setSignature(0, param, ret), true);
                CHECK.due("param", x.getDecl(0, 4), param);
                CHECK.due("return", x.getDecl(0, 5), ret);
            }
        }
    }

    private static void firstLocalFollows() {
        CHECK.says("Because decl(v1) of the class body is param(cls), that local's declared type follows.");
        OwnerDominance x = Programs.classes(8);
        for (int param : Ints.ANY) {
            for (int c = 0; c < 8; c++) {
                x.setSignature(c, param, 3);
                CHECK.due("decl(v1) of " + c, x.getDecl(c, 9), param);
            }
        }
        typedByParam(0x10, OwnerDominance.E_OK);
        typedByParam(0x20, OwnerDominance.E_MISMATCH);
    }

    /** m's v1 goes into a field that this object's owner owns. */
    private static void typedByParam(int param, int due) {
        OwnerDominance x = Programs.classes(1);
        x.addField(0, 0x10);
        x.setSignature(0, 0, 0);
        x.setSignature(0, param, 0);
        x.addStmt(0, OwnerDominance.OP_STORE, 0, 1);
        CHECK.due("compile(1) with param " + param, x.compile(1), due);
    }

    private static void othersStay() {
        CHECK.says("`setSignature(cls, paramType, retType)` .. Nothing else changes.");
        for (int cls = 0; cls < 8; cls++) {
            OwnerDominance x = Programs.classes(8);
            for (int body = 0; body <= 8; body++) {
                for (int v = 0; v < 8; v++) {
                    x.setLocal(body, v, 30 + body);
                }
                x.setSignature(body, 40 + body, 50 + body);
                x.addStmt(body, 6, 2, body);
                for (int f = 0; f < 4; f++) {
                    x.addField(body, 60 + body);
                }
            }
            x.compile(1);
            String before = Snapshot.of(x);
            x.setSignature(cls, 88, 99);
            String param = 40 + cls + "->88";
            CHECK.same("what changed", Snapshot.changes(before, Snapshot.of(x)),
                    param + " " + (50 + cls) + "->99 " + param);
        }
    }
}
