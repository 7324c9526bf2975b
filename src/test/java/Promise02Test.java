/** Promise 2: addClass. */
public final class Promise02Test {
    private static final Check CHECK = new Check();

    public static void main(String[] args) {
        wrongFormals();
        eightClasses();
        newClassIsEmpty();
        othersStay();
        frozen();
        CHECK.end();
    }

    private static void wrongFormals() {
        OwnerDominance x = new OwnerDominance(8);
        String before = Snapshot.of(x);
        int[] wrong = {-1, 3, 4, 8, Integer.MIN_VALUE, Integer.MAX_VALUE};
        for (int formals : wrong) {
            CHECK.due("addClass(" + formals + ")", x.addClass(formals), -1);
        }
        CHECK.same("after refused calls", Snapshot.of(x), before);
        CHECK.due("addClass(2)", x.addClass(2), 0);
    }

    private static void eightClasses() {
        OwnerDominance x = new OwnerDominance(8);
        for (int id = 0; id < 8; id++) {
            CHECK.due("addClass", x.addClass(id % 3), id);
        }
        String before = Snapshot.of(x);
        for (int formals = 0; formals <= 2; formals++) {
            CHECK.due("the ninth addClass", x.addClass(formals), -1);
        }
        CHECK.same("after the ninth class", Snapshot.of(x), before);
        for (int id = 0; id < 8; id++) {
            CHECK.due("formals of " + id, x.getDecl(id, 6), id % 3);
        }
    }

    private static void newClassIsEmpty() {
        OwnerDominance x = new OwnerDominance(8);
        int[] self = {0x10, 0x311, 0x4312};
        for (int id = 0; id < 3; id++) {
            x.addClass(id);
            for (int f = 0; f < 4; f++) {
                CHECK.due("field " + f, x.getDecl(id, f), -2);
            }
            CHECK.due("param", x.getDecl(id, 4), 0);
            CHECK.due("return", x.getDecl(id, 5), 0);
            CHECK.due("formals", x.getDecl(id, 6), id);
            CHECK.due("fieldCount", x.getDecl(id, 7), 0);
            CHECK.due("decl(v0)", x.getDecl(id, 8), self[id]);
            for (int v = 1; v < 8; v++) {
                CHECK.due("decl(v" + v + ")", x.getDecl(id, 8 + v), 0);
            }
            CHECK.due("statements", x.getDecl(id, 16), 0);
        }
        CHECK.due("decl(v0) of class 0 at the end", x.getDecl(0, 8), 0x10);
    }

    private static void othersStay() {
        OwnerDominance x = new OwnerDominance(8);
        x.addClass(2);
        x.addField(0, 7);
        x.setSignature(0, 8, 9);
        x.setLocal(0, 5, 10);
        x.addStmt(0, 1, 2, 3);
        x.setLocal(8, 0, 11);
        x.addStmt(8, 4, 5, 6);
        x.compile(1);
        String first = lines(x, 0);
        String main = lines(x, 8);
        int errorAt = x.getErrorAt();
        x.addClass(1);
        CHECK.same("class 0", lines(x, 0), first);
        CHECK.same("main", lines(x, 8), main);
        CHECK.due("getErrorAt()", x.getErrorAt(), errorAt);
        CHECK.due("getStatus()", x.getStatus(), 0);
        CHECK.due("getFrameCount()", x.getFrameCount(), 0);
        CHECK.due("getDecl(2, 6)", x.getDecl(2, 6), -2);
    }

    private static String lines(OwnerDominance x, int body) {
        StringBuilder text = new StringBuilder();
        for (int item = 0; item <= 16; item++) {
            text.append(x.getDecl(body, item)).append(' ');
        }
        for (int part = 0; part < 3; part++) {
            text.append(x.getStmt(body, 0, part)).append(' ');
        }
        return text.toString();
    }

    private static void frozen() {
        for (OwnerDominance x : Frozen.all()) {
            String before = Snapshot.of(x);
            for (int formals = 0; formals <= 2; formals++) {
                CHECK.due("addClass when frozen", x.addClass(formals), -1);
            }
            CHECK.same("after addClass when frozen", Snapshot.of(x), before);
        }
    }
}
