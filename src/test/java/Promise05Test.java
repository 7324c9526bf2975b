/** Promise 5: setLocal. */
public final class Promise05Test {
    private static final Check CHECK = new Check();
    private static final int[] ANY = {1, -1, -2, 15, 65535, 65536, Integer.MIN_VALUE, Integer.MAX_VALUE, 0};

    public static void main(String[] args) {
        wrongBody();
        wrongVariable();
        anyTypeIsStored();
        everyBodyHasItsOwn();
        frozen();
        CHECK.end();
    }

    private static void wrongBody() {
        OwnerDominance x = new OwnerDominance(8);
        CHECK.due("setLocal(0, 2, 5) without a class", x.setLocal(0, 2, 5), false);
        x.addClass(0);
        x.addClass(0);
        String before = Snapshot.of(x);
        int[] wrong = {-1, 2, 3, 7, 9, 10, 100, Integer.MIN_VALUE, Integer.MAX_VALUE};
        for (int body : wrong) {
            CHECK.due("setLocal(" + body + ", 3, 5)", x.setLocal(body, 3, 5), false);
        }
        CHECK.same("after refused calls", Snapshot.of(x), before);
    }

    private static void wrongVariable() {
        OwnerDominance x = new OwnerDominance(8);
        x.addClass(0);
        x.addClass(0);
        String before = Snapshot.of(x);
        int[] wrong = {-1, 8, 9, 100, Integer.MIN_VALUE, Integer.MAX_VALUE};
        for (int v : wrong) {
            CHECK.due("setLocal(0, " + v + ", 5)", x.setLocal(0, v, 5), false);
            CHECK.due("setLocal(8, " + v + ", 5)", x.setLocal(8, v, 5), false);
        }
        for (int v = 0; v < 2; v++) {
            CHECK.due("setLocal(0, " + v + ", 5)", x.setLocal(0, v, 5), false);
            CHECK.due("setLocal(1, " + v + ", 5)", x.setLocal(1, v, 5), false);
        }
        CHECK.same("after refused calls", Snapshot.of(x), before);
        CHECK.due("setLocal(8, 0, 5)", x.setLocal(8, 0, 5), true);
        CHECK.due("setLocal(8, 1, 6)", x.setLocal(8, 1, 6), true);
        CHECK.due("getDecl(8, 8)", x.getDecl(8, 8), 5);
        CHECK.due("getDecl(8, 9)", x.getDecl(8, 9), 6);
    }

    private static void anyTypeIsStored() {
        OwnerDominance x = new OwnerDominance(8);
        x.addClass(1);
        for (int type : ANY) {
            CHECK.due("setLocal(0, 2, " + type + ")", x.setLocal(0, 2, type), true);
            CHECK.due("getDecl(0, 10)", x.getDecl(0, 10), type);
            CHECK.due("setLocal(8, 7, " + type + ")", x.setLocal(8, 7, type), true);
            CHECK.due("getDecl(8, 15)", x.getDecl(8, 15), type);
        }
    }

    private static void everyBodyHasItsOwn() {
        OwnerDominance x = new OwnerDominance(8);
        for (int c = 0; c < 8; c++) {
            x.addClass(0);
        }
        for (int body = 8; body >= 0; body--) {
            for (int v = body == 8 ? 0 : 2; v < 8; v++) {
                CHECK.due("setLocal(" + body + ", " + v + ", ..)", x.setLocal(body, v, 10 * body + v), true);
            }
        }
        for (int body = 0; body <= 8; body++) {
            for (int v = body == 8 ? 0 : 2; v < 8; v++) {
                CHECK.due("decl(v" + v + ") of " + body, x.getDecl(body, 8 + v), 10 * body + v);
            }
        }
        for (int c = 0; c < 8; c++) {
            CHECK.due("decl(v0) of " + c, x.getDecl(c, 8), 16 + c);
            CHECK.due("decl(v1) of " + c, x.getDecl(c, 9), 0);
        }
    }

    private static void frozen() {
        for (OwnerDominance x : Frozen.all()) {
            String before = Snapshot.of(x);
            CHECK.due("setLocal when frozen", x.setLocal(8, 0, 77), false);
            CHECK.due("setLocal when frozen", x.setLocal(0, 2, 77), false);
            CHECK.same("after setLocal when frozen", Snapshot.of(x), before);
        }
    }
}
