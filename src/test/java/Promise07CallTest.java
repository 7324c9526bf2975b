/** Promise 7: when compile is refused, what it leaves behind, and getErrorAt. */
public final class Promise07CallTest {
    private static final Check CHECK = new Check();

    public static void main(String[] args) {
        wrongMode();
        noClasses();
        failureLeavesTheProgram();
        successStartsTheMachine();
        frozen();
        CHECK.end();
    }

    private static void wrongMode() {
        OwnerDominance x = new OwnerDominance(8);
        x.addClass(0);
        x.setLocal(8, 3, -1);
        int[] wrong = {-1, 2, 3, Integer.MIN_VALUE, Integer.MAX_VALUE};
        String before = Snapshot.of(x);
        for (int mode : wrong) {
            CHECK.due("compile(" + mode + ")", x.compile(mode), -1);
        }
        CHECK.same("after refused calls", Snapshot.of(x), before);
        CHECK.due("compile(1)", x.compile(1), 1);
        CHECK.due("getErrorAt()", x.getErrorAt(), 8 * 32 + 8 + 3);
        x.setLocal(8, 3, 0);
        before = Snapshot.of(x);
        for (int mode : wrong) {
            CHECK.due("compile(" + mode + ")", x.compile(mode), -1);
        }
        CHECK.same("the location stays", Snapshot.of(x), before);
        CHECK.due("getErrorAt()", x.getErrorAt(), 8 * 32 + 8 + 3);
        CHECK.due("compile(0)", x.compile(0), 0);
        CHECK.due("getErrorAt()", x.getErrorAt(), -1);
    }

    /** The type word 0 names class 0, so main's locals are no types without one. */
    private static void noClasses() {
        for (int mode = 0; mode <= 1; mode++) {
            OwnerDominance x = new OwnerDominance(8);
            CHECK.due("compile(" + mode + ")", x.compile(mode), OwnerDominance.E_BADTYPE);
            CHECK.due("getErrorAt()", x.getErrorAt(), 264);
            x.addClass(0);
            CHECK.due("getErrorAt()", x.getErrorAt(), 264);
            CHECK.due("compile(" + mode + ")", x.compile(mode), OwnerDominance.E_OK);
            CHECK.due("getErrorAt()", x.getErrorAt(), -1);
        }
    }

    private static void failureLeavesTheProgram() {
        OwnerDominance x = new OwnerDominance(8);
        x.addClass(0);
        x.setSignature(0, 5, 0);
        String before = Snapshot.program(x);
        CHECK.due("compile(0)", x.compile(0), 1);
        CHECK.due("getErrorAt()", x.getErrorAt(), 4);
        CHECK.due("getStatus()", x.getStatus(), 0);
        CHECK.due("getFrameCount()", x.getFrameCount(), 0);
        CHECK.same("the program", Snapshot.program(x), before);
        CHECK.due("setSignature(0, 0, 6)", x.setSignature(0, 0, 6), true);
        CHECK.due("getErrorAt() after an edit", x.getErrorAt(), 4);
        CHECK.due("compile(1)", x.compile(1), 1);
        CHECK.due("getErrorAt()", x.getErrorAt(), 5);
        CHECK.due("addField", x.addField(0, 0), 0);
        CHECK.due("setLocal", x.setLocal(0, 2, 0), true);
        CHECK.due("addStmt", x.addStmt(0, 6, 2, 0), 0);
        CHECK.due("addClass", x.addClass(0), 1);
        CHECK.due("setSignature(0, 0, 0)", x.setSignature(0, 0, 0), true);
        CHECK.due("compile(1)", x.compile(1), 0);
        CHECK.due("getErrorAt()", x.getErrorAt(), -1);
    }

    private static void successStartsTheMachine() {
        for (int mode = 0; mode <= 1; mode++) {
            OwnerDominance x = new OwnerDominance(8);
            x.addClass(0);
            x.addStmt(8, OwnerDominance.OP_NEW, 0, 0);
            String before = Snapshot.program(x);
            CHECK.due("compile(" + mode + ")", x.compile(mode), 0);
            CHECK.due("getStatus()", x.getStatus(), OwnerDominance.ST_RUNNING);
            CHECK.same("the machine", Snapshot.machine(x),
                    "machine\n frame 0: 8 0 -1 -1 -1 -1 -1 -1 -1 -1 -1 -1");
            CHECK.same("the program", Snapshot.program(x), before);
        }
    }

    private static void frozen() {
        for (OwnerDominance x : Frozen.all()) {
            String before = Snapshot.of(x);
            for (int mode = -1; mode <= 2; mode++) {
                CHECK.due("compile(" + mode + ") when frozen", x.compile(mode), -1);
            }
            CHECK.same("after compile when frozen", Snapshot.of(x), before);
        }
    }
}
