/** Promise 3: addField. */
public final class Promise03Test {
    private static final Check CHECK = new Check();
    private static final int[] ANY = {0, 1, -1, -2, 15, 65535, 65536, Integer.MIN_VALUE, Integer.MAX_VALUE};

    public static void main(String[] args) {
        wrongClass();
        fourFields();
        anyTypeIsStored();
        everyClassHasItsOwn();
        frozen();
        CHECK.end();
    }

    private static void wrongClass() {
        OwnerDominance x = new OwnerDominance(8);
        CHECK.due("addField(0, 0) without a class", x.addField(0, 0), -1);
        x.addClass(0);
        x.addClass(0);
        String before = Snapshot.of(x);
        int[] wrong = {-1, 2, 3, 7, 8, 9, 100, Integer.MIN_VALUE, Integer.MAX_VALUE};
        for (int cls : wrong) {
            CHECK.due("addField(" + cls + ", 0)", x.addField(cls, 0), -1);
        }
        CHECK.same("after refused calls", Snapshot.of(x), before);
    }

    private static void fourFields() {
        OwnerDominance x = new OwnerDominance(8);
        x.addClass(1);
        for (int f = 0; f < 4; f++) {
            CHECK.due("fieldCount", x.getDecl(0, 7), f);
            CHECK.due("addField(0, " + (40 + f) + ")", x.addField(0, 40 + f), f);
        }
        String before = Snapshot.of(x);
        CHECK.due("the fifth addField", x.addField(0, 44), -1);
        CHECK.same("after the fifth", Snapshot.of(x), before);
        for (int f = 0; f < 4; f++) {
            CHECK.due("field " + f, x.getDecl(0, f), 40 + f);
        }
        CHECK.due("fieldCount", x.getDecl(0, 7), 4);
        CHECK.due("param", x.getDecl(0, 4), 0);
    }

    private static void anyTypeIsStored() {
        for (int type : ANY) {
            OwnerDominance x = new OwnerDominance(8);
            x.addClass(0);
            CHECK.due("addField(0, " + type + ")", x.addField(0, type), 0);
            CHECK.due("getDecl(0, 0)", x.getDecl(0, 0), type);
        }
    }

    private static void everyClassHasItsOwn() {
        OwnerDominance x = new OwnerDominance(8);
        for (int c = 0; c < 8; c++) {
            x.addClass(0);
        }
        for (int f = 0; f < 4; f++) {
            for (int c = 7; c >= 0; c--) {
                CHECK.due("addField(" + c + ", ..)", x.addField(c, 100 * c + f), f);
            }
        }
        for (int c = 0; c < 8; c++) {
            for (int f = 0; f < 4; f++) {
                CHECK.due("getDecl(" + c + ", " + f + ")", x.getDecl(c, f), 100 * c + f);
            }
        }
    }

    private static void frozen() {
        for (OwnerDominance x : Frozen.all()) {
            String before = Snapshot.of(x);
            CHECK.due("addField when frozen", x.addField(0, 0), -1);
            CHECK.same("after addField when frozen", Snapshot.of(x), before);
        }
    }
}
