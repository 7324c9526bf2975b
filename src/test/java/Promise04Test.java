/** Promise 4: setSignature. */
public final class Promise04Test {
    private static final Check CHECK = new Check();
    private static final int[] ANY = {0, 1, -1, -2, 15, 65535, 65536, Integer.MIN_VALUE, Integer.MAX_VALUE};

    public static void main(String[] args) {
        wrongClass();
        anyTypesAreStored();
        everyClassHasItsOwn();
        frozen();
        CHECK.end();
    }

    private static void wrongClass() {
        OwnerDominance x = new OwnerDominance(8);
        CHECK.due("setSignature(0, 1, 2) without a class", x.setSignature(0, 1, 2), false);
        x.addClass(0);
        x.addClass(0);
        String before = Snapshot.of(x);
        int[] wrong = {-1, 2, 3, 7, 8, 9, 100, Integer.MIN_VALUE, Integer.MAX_VALUE};
        for (int cls : wrong) {
            CHECK.due("setSignature(" + cls + ", 1, 2)", x.setSignature(cls, 1, 2), false);
        }
        CHECK.same("after refused calls", Snapshot.of(x), before);
    }

    private static void anyTypesAreStored() {
        OwnerDominance x = new OwnerDominance(8);
        x.addClass(2);
        for (int param : ANY) {
            for (int ret : ANY) {
                CHECK.due("setSignature", x.setSignature(0, param, ret), true);
                CHECK.due("param", x.getDecl(0, 4), param);
                CHECK.due("return", x.getDecl(0, 5), ret);
                CHECK.due("decl(v1)", x.getDecl(0, 9), param);
                CHECK.due("decl(v0)", x.getDecl(0, 8), 0x4310);
                CHECK.due("decl(v2)", x.getDecl(0, 10), 0);
            }
        }
    }

    private static void everyClassHasItsOwn() {
        OwnerDominance x = new OwnerDominance(8);
        for (int c = 0; c < 8; c++) {
            x.addClass(0);
        }
        for (int c = 7; c >= 0; c--) {
            CHECK.due("setSignature(" + c + ", ..)", x.setSignature(c, 10 + c, 20 + c), true);
        }
        for (int c = 0; c < 8; c++) {
            CHECK.due("param of " + c, x.getDecl(c, 4), 10 + c);
            CHECK.due("return of " + c, x.getDecl(c, 5), 20 + c);
            CHECK.due("fieldCount of " + c, x.getDecl(c, 7), 0);
        }
        CHECK.due("v1 of main", x.getDecl(8, 9), 0);
    }

    private static void frozen() {
        for (OwnerDominance x : Frozen.all()) {
            String before = Snapshot.of(x);
            CHECK.due("setSignature when frozen", x.setSignature(0, 77, 78), false);
            CHECK.same("after setSignature when frozen", Snapshot.of(x), before);
        }
    }
}
