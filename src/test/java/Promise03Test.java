/** Promise 3: addField. */
public final class Promise03Test {
    private static final Check CHECK = new Check();
    private static final String REFUSED =
            "`addField(cls, type)` is refused, answering -1 and changing nothing, if any of these holds: .. ";

    public static void main(String[] args) {
        refusedWhenFrozen();
        refusedClass();
        refusedWhenFull();
        indexInOrder();
        anyTypeIsStored();
        compileChecksIt();
        othersStay();
        CHECK.end();
    }

    private static void refusedWhenFrozen() {
        CHECK.says(REFUSED + "status != ST_EDIT");
        for (OwnerDominance x : Frozen.all()) {
            String before = Snapshot.of(x);
            CHECK.due("addField(0, 0) in status " + x.getStatus(), x.addField(0, 0), -1);
            CHECK.same("after addField when frozen", Snapshot.of(x), before);
        }
    }

    private static void refusedClass() {
        CHECK.says(REFUSED + "cls is not in 0..classCount-1");
        for (int classes = 0; classes <= 8; classes++) {
            OwnerDominance x = Programs.classes(classes);
            String before = Snapshot.of(x);
            for (int cls : Ints.notIn(0, classes - 1)) {
                CHECK.due("addField(" + cls + ", 5) of " + classes, x.addField(cls, 5), -1);
            }
            CHECK.same("after refused calls", Snapshot.of(x), before);
            if (classes > 0) {
                CHECK.due("addField of the last class", x.addField(classes - 1, 5), 0);
            }
            OwnerDominance twin = Programs.classes(classes);
            twin.addField(classes - 1, 5);
            CHECK.same("with eight classes", Snapshot.withEightClasses(x), Snapshot.withEightClasses(twin));
        }
    }

    private static void refusedWhenFull() {
        CHECK.says(REFUSED + "cls already has 4 fields");
        OwnerDominance x = Programs.classes(8);
        for (int f = 0; f < 4; f++) {
            for (int c = 7; c >= 0; c--) {
                CHECK.due("addField(" + c + ", ..)", x.addField(c, 100 * c + f), f);
            }
        }
        String before = Snapshot.of(x);
        for (int i = 0; i < 2; i++) {
            for (int c = 0; c < 8; c++) {
                CHECK.due("the fifth addField of " + c, x.addField(c, 999), -1);
            }
        }
        CHECK.same("after the fifth", Snapshot.of(x), before);
    }

    private static void indexInOrder() {
        CHECK.says("Otherwise it appends a field of type word `type` to cls and answers its index,"
                + " which is the old fieldCount (0..3).");
        for (int cls = 0; cls < 8; cls++) {
            OwnerDominance x = Programs.classes(8);
            for (int f = 0; f < 4; f++) {
                CHECK.due("fieldCount before", x.getDecl(cls, 7), f);
                CHECK.due("the field before", x.getDecl(cls, f), -2);
                CHECK.due("addField(" + cls + ", " + (40 + f) + ")", x.addField(cls, 40 + f), f);
                CHECK.due("fieldCount", x.getDecl(cls, 7), f + 1);
                CHECK.due("the field", x.getDecl(cls, f), 40 + f);
            }
            for (int f = 0; f < 4; f++) {
                CHECK.due("field " + f + " at the end", x.getDecl(cls, f), 40 + f);
            }
        }
    }

    private static void anyTypeIsStored() {
        CHECK.says("The type is stored exactly as given, for any int value");
        for (int type : Ints.ANY) {
            OwnerDominance x = Programs.classes(1);
            for (int f = 0; f < 4; f++) {
                CHECK.due("addField(0, " + type + ")", x.addField(0, type), f);
                CHECK.due("getDecl(0, " + f + ")", x.getDecl(0, f), type);
            }
        }
    }

    private static void compileChecksIt() {
        CHECK.says("The type is stored exactly as given, for any int value; `compile` checks it.");
        for (int type : Ints.ANY) {
            OwnerDominance x = Programs.classes(1);
            x.addField(0, 0);
            x.addField(0, type);
            boolean good = type == 0 || type == 16;
            CHECK.due("compile(1) with " + type, x.compile(1), good ? OwnerDominance.E_OK : OwnerDominance.E_BADTYPE);
            CHECK.due("getErrorAt()", x.getErrorAt(), good ? -1 : 1);
        }
    }

    private static void othersStay() {
        CHECK.says("`addField(cls, type)` .. Nothing else changes.");
        for (int cls = 0; cls < 8; cls++) {
            OwnerDominance x = Programs.classes(8);
            for (int body = 0; body <= 8; body++) {
                x.setLocal(body, 3, 30 + body);
                x.setSignature(body, 40 + body, 50 + body);
                x.addStmt(body, 6, 2, body);
                x.addField(body, 60 + body);
            }
            x.compile(1);
            String before = Snapshot.of(x);
            x.addField(cls, 77);
            CHECK.same("what changed", Snapshot.changes(before, Snapshot.of(x)), "-2->77 1->2");
            CHECK.due("the field", x.getDecl(cls, 1), 77);
        }
    }
}
