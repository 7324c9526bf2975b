/** Promise 7: when compile is refused, what it leaves behind, and getErrorAt. */
public final class Promise07CallTest {
    private static final Check CHECK = new Check();
    private static final String REFUSED = "`compile(mode)` is refused, answering -1 and changing nothing"
            + " (the error location included), if any of these holds: .. ";
    private static final int MAIN = OwnerDominance.BODY_MAIN;

    public static void main(String[] args) {
        refusedWhenFrozen();
        refusedMode();
        refusedModeKeepsTheLocation();
        noClasses();
        errorIsRecorded();
        failureLeavesTheProgram();
        successAnswersOk();
        successClearsTheLocation();
        successStartsTheMachine();
        frozenProgram();
        lastLocation();
        noLocation();
        readingTheLocation();
        CHECK.end();
    }

    private static OwnerDominance oneClass() {
        OwnerDominance x = new OwnerDominance(8);
        x.addClass(0);
        return x;
    }

    private static void refusedWhenFrozen() {
        CHECK.says(REFUSED + "status != ST_EDIT");
        for (OwnerDominance x : Frozen.all()) {
            String before = Snapshot.of(x);
            for (int mode = -1; mode <= 2; mode++) {
                CHECK.due("compile(" + mode + ") in status " + x.getStatus(), x.compile(mode), -1);
            }
            CHECK.same("after compile when frozen", Snapshot.of(x), before);
        }
    }

    private static void refusedMode() {
        CHECK.says(REFUSED + "mode is not 0 or 1");
        OwnerDominance[] objects = {new OwnerDominance(8), oneClass()};
        for (OwnerDominance x : objects) {
            String before = Snapshot.of(x);
            for (int mode : Ints.notIn(0, 1)) {
                CHECK.due("compile(" + mode + ")", x.compile(mode), -1);
            }
            CHECK.same("after refused calls", Snapshot.of(x), before);
        }
        for (int mode = 0; mode <= 1; mode++) {
            CHECK.due("compile(" + mode + ")", oneClass().compile(mode), OwnerDominance.E_OK);
        }
    }

    private static void refusedModeKeepsTheLocation() {
        CHECK.says("answering -1 and changing nothing (the error location included)");
        OwnerDominance x = oneClass();
        x.setLocal(MAIN, 3, -1);
        CHECK.due("compile(1)", x.compile(1), 1);
        // Whether the program is wrong elsewhere by now or right again, a refused call doesn't look at it.
        int[] types = {-1, 0};
        for (int type : types) {
            x.setLocal(MAIN, 3, type);
            x.setLocal(MAIN, 5, type);
            String before = Snapshot.of(x);
            for (int mode : Ints.notIn(0, 1)) {
                CHECK.due("compile(" + mode + ")", x.compile(mode), -1);
                CHECK.due("getErrorAt()", x.getErrorAt(), 8 * 32 + 8 + 3);
            }
            CHECK.same("after refused calls", Snapshot.of(x), before);
        }
    }

    /** The type word 0 names class 0, so main's locals are no types without one. */
    private static void noClasses() {
        CHECK.says("Anything never set (locals, param, return) is the type word 0."
                + " .. E_BADTYPE unless all of these hold: 0 <= t <= 65535, cls < classCount");
        for (int mode = 0; mode <= 1; mode++) {
            OwnerDominance x = new OwnerDominance(8);
            CHECK.due("compile(" + mode + ") without a class", x.compile(mode), OwnerDominance.E_BADTYPE);
            CHECK.due("getErrorAt()", x.getErrorAt(), 264);
            CHECK.due("getStatus()", x.getStatus(), OwnerDominance.ST_EDIT);
            x.addStmt(MAIN, 0, 0, 0);
            CHECK.due("compile(" + mode + ") with a wrong statement", x.compile(mode), OwnerDominance.E_BADTYPE);
            CHECK.due("getErrorAt()", x.getErrorAt(), 264);
            x = new OwnerDominance(8);
            x.compile(mode);
            x.addClass(0);
            CHECK.due("getErrorAt()", x.getErrorAt(), 264);
            CHECK.due("compile(" + mode + ") with a class", x.compile(mode), OwnerDominance.E_OK);
            CHECK.due("getErrorAt()", x.getErrorAt(), -1);
        }
    }

    private static void errorIsRecorded() {
        CHECK.says("If an error is found, `compile` answers its code and records its location body*32 + item,"
                + " where body is 8 for main.");
        OwnerDominance x = oneClass();
        x.addField(0, 1);
        CHECK.due("compile(1)", x.compile(1), OwnerDominance.E_BADTYPE);
        CHECK.due("the smallest location", x.getErrorAt(), 0);
        x = new OwnerDominance(8);
        for (int c = 0; c < 8; c++) {
            x.addClass(0);
        }
        for (int i = 0; i < 15; i++) {
            x.addStmt(7, OwnerDominance.OP_NULL, 1, 0);
            x.addStmt(MAIN, OwnerDominance.OP_NULL, 0, 0);
        }
        x.addStmt(MAIN, OwnerDominance.OP_RETURN, 0, 0);
        CHECK.due("compile(1)", x.compile(1), OwnerDominance.E_BADOPERAND);
        CHECK.due("the greatest location", x.getErrorAt(), 8 * 32 + 31);
        x.addStmt(7, OwnerDominance.OP_NULL, 0, 0);
        CHECK.due("compile(1)", x.compile(1), OwnerDominance.E_BADOPERAND);
        CHECK.due("the greatest location of a class", x.getErrorAt(), 7 * 32 + 31);
    }

    private static void failureLeavesTheProgram() {
        CHECK.says("Status stays ST_EDIT; the program is unchanged and can still be edited.");
        OwnerDominance x = oneClass();
        x.setSignature(0, 5, 0);
        String before = Snapshot.of(x);
        CHECK.due("compile(0)", x.compile(0), 1);
        CHECK.same("what changed", Snapshot.changes(before, Snapshot.of(x)), "-1->4");
        CHECK.due("getStatus()", x.getStatus(), OwnerDominance.ST_EDIT);
        CHECK.due("getFrameCount()", x.getFrameCount(), 0);
        CHECK.due("setSignature(0, 0, 6)", x.setSignature(0, 0, 6), true);
        CHECK.due("getErrorAt() after an edit", x.getErrorAt(), 4);
        CHECK.due("compile(1)", x.compile(1), 1);
        CHECK.due("getErrorAt()", x.getErrorAt(), 5);
        CHECK.due("addField", x.addField(0, 0), 0);
        CHECK.due("setLocal", x.setLocal(0, 2, 0), true);
        CHECK.due("addStmt", x.addStmt(0, 6, 2, 0), 0);
        CHECK.due("addClass", x.addClass(0), 1);
        CHECK.due("setSignature(0, 0, 0)", x.setSignature(0, 0, 0), true);
        CHECK.due("compile(1)", x.compile(1), 0);
    }

    private static void successAnswersOk() {
        CHECK.says("If no error is found, `compile`: answers E_OK; .. sets status to ST_RUNNING.");
        for (int mode = 0; mode <= 1; mode++) {
            OwnerDominance x = oneClass();
            CHECK.due("compile(" + mode + ") of an empty main", x.compile(mode), OwnerDominance.E_OK);
            CHECK.due("getStatus()", x.getStatus(), OwnerDominance.ST_RUNNING);
        }
    }

    private static void successClearsTheLocation() {
        CHECK.says("If no error is found, `compile`: .. clears the location;");
        for (int mode = 0; mode <= 1; mode++) {
            OwnerDominance x = oneClass();
            x.setLocal(MAIN, 3, -1);
            x.compile(mode);
            CHECK.due("getErrorAt()", x.getErrorAt(), 8 * 32 + 8 + 3);
            x.setLocal(MAIN, 3, 0);
            CHECK.due("getErrorAt() before", x.getErrorAt(), 8 * 32 + 8 + 3);
            CHECK.due("compile(" + mode + ")", x.compile(mode), OwnerDominance.E_OK);
            CHECK.due("getErrorAt()", x.getErrorAt(), -1);
        }
    }

    private static void successStartsTheMachine() {
        CHECK.says("starts the machine with no objects and one main frame (pc 0, locals null)");
        for (int mode = 0; mode <= 1; mode++) {
            OwnerDominance x = oneClass();
            x.addStmt(MAIN, OwnerDominance.OP_NEW, 0, 0);
            String before = Snapshot.program(x);
            x.compile(mode);
            CHECK.same("the machine", Snapshot.machine(x),
                    "machine\n frame 0: 8 0 -1 -1 -1 -1 -1 -1 -1 -1 -1 -1");
            CHECK.same("the program", Snapshot.program(x), before);
        }
    }

    private static void frozenProgram() {
        CHECK.says("Once the program is frozen, all editing methods and `compile` are refused.");
        for (OwnerDominance x : Frozen.all()) {
            for (int i = 0; i < 2; i++) {
                String before = Snapshot.of(x);
                CHECK.due("addClass(0)", x.addClass(0), -1);
                CHECK.due("addField(0, 0)", x.addField(0, 0), -1);
                CHECK.due("setSignature(0, 1, 1)", x.setSignature(0, 1, 1), false);
                CHECK.due("setLocal(0, 2, 1)", x.setLocal(0, 2, 1), false);
                CHECK.due("setLocal(8, 0, 1)", x.setLocal(MAIN, 0, 1), false);
                CHECK.due("addStmt(0, 6, 2, 0)", x.addStmt(0, 6, 2, 0), -1);
                CHECK.due("addStmt(8, 6, 2, 0)", x.addStmt(MAIN, 6, 2, 0), -1);
                CHECK.due("compile(0)", x.compile(0), -1);
                CHECK.due("compile(1)", x.compile(1), -1);
                CHECK.same("after refused calls", Snapshot.of(x), before);
                x.restart();
            }
        }
    }

    private static void lastLocation() {
        CHECK.says("`getErrorAt()` answers the location recorded by the last compile that found an error.");
        OwnerDominance x = oneClass();
        x.setLocal(MAIN, 7, -1);
        x.compile(1);
        CHECK.due("the first", x.getErrorAt(), 8 * 32 + 8 + 7);
        x.setLocal(MAIN, 2, -1);
        CHECK.due("the first, after an edit", x.getErrorAt(), 8 * 32 + 8 + 7);
        x.compile(0);
        CHECK.due("the second", x.getErrorAt(), 8 * 32 + 8 + 2);
        x.setSignature(0, -1, 0);
        x.compile(2);
        CHECK.due("the second, after a refused call", x.getErrorAt(), 8 * 32 + 8 + 2);
        x.compile(1);
        CHECK.due("the third", x.getErrorAt(), 4);
        x.setSignature(0, 0, 0);
        x.compile(1);
        CHECK.due("the second again", x.getErrorAt(), 8 * 32 + 8 + 2);
    }

    private static void noLocation() {
        CHECK.says("It answers -1 if there is none, or after a successful compile.");
        OwnerDominance x = new OwnerDominance(8);
        CHECK.due("at the start", x.getErrorAt(), -1);
        x.compile(2);
        CHECK.due("after a refused call", x.getErrorAt(), -1);
        x.addClass(0);
        CHECK.due("after an edit", x.getErrorAt(), -1);
        x.compile(1);
        CHECK.due("after a successful compile", x.getErrorAt(), -1);
        for (OwnerDominance frozen : Frozen.all()) {
            CHECK.due("in status " + frozen.getStatus(), frozen.getErrorAt(), -1);
            frozen.compile(1);
            CHECK.due("after a refused compile", frozen.getErrorAt(), -1);
        }
    }

    private static void readingTheLocation() {
        CHECK.says("`getErrorAt()` answers .. It changes nothing.");
        OwnerDominance x = oneClass();
        x.setLocal(MAIN, 7, -1);
        x.compile(1);
        for (int i = 0; i < 2; i++) {
            String before = Snapshot.of(x);
            x.getErrorAt();
            CHECK.same("after reading", Snapshot.of(x), before);
            CHECK.due("getErrorAt() again", x.getErrorAt(), i == 0 ? 8 * 32 + 8 + 7 : -1);
            x.setLocal(MAIN, 7, 0);
            x.compile(1);
        }
    }
}
