/** Promise 12: getFrameCount and getFrame. */
public final class Promise12Test {
    private static final Check CHECK = new Check();
    private static final String UNLESS =
            "`getFrame(frame, what)` answers -2 unless frame is in 0..n-1 (0 = main) and what is in 0..11.";

    public static void main(String[] args) {
        noneInEdit();
        countOfFrames();
        noSuchFrame();
        noSuchPart();
        everyPart();
        eightFrames();
        remainAfterEveryStop();
        changeNothing();
        CHECK.end();
    }

    private static void noFrames(OwnerDominance x) {
        CHECK.due("getFrameCount()", x.getFrameCount(), 0);
        for (int frame : Ints.notIn(0, -1)) {
            for (int what = -1; what <= 12; what++) {
                CHECK.due("getFrame(" + frame + ", " + what + ")", x.getFrame(frame, what), -2);
            }
        }
    }

    private static void noneInEdit() {
        CHECK.says("It is 0 while status == ST_EDIT.");
        OwnerDominance x = new OwnerDominance(8);
        noFrames(x);
        x.compile(1);
        noFrames(x);
        x.addClass(0);
        noFrames(x);
        x.run(1);
        x.restart();
        noFrames(x);
        x.compile(1);
        CHECK.due("getFrameCount()", x.getFrameCount(), 1);
    }

    /** Frame 2 is a call of object 3 that frame 1, a call of object 1, has made. */
    private static OwnerDominance threeFrames() {
        OwnerDominance x = new OwnerDominance(8);
        x.addClass(0);
        x.addClass(0);
        x.setSignature(1, 0, 0);
        for (int v = 2; v < 7; v++) {
            x.addStmt(1, OwnerDominance.OP_NEW, v, 0);
        }
        x.addStmt(1, OwnerDominance.OP_CALL, 7, 8 * 4 + 3);
        x.setLocal(8, 5, 1);
        x.addStmt(8, OwnerDominance.OP_NEW, 0, 0);
        x.addStmt(8, OwnerDominance.OP_NEW, 5, 1);
        x.addStmt(8, OwnerDominance.OP_CALL, 6, 8 * 0 + 5);
        CHECK.due("compile(1)", x.compile(1), 0);
        CHECK.due("run(9)", x.run(9), OwnerDominance.ST_RUNNING);
        return x;
    }

    private static void countOfFrames() {
        CHECK.says("`getFrameCount()` answers the number of frames on the machine.");
        OwnerDominance x = threeFrames();
        CHECK.due("getFrameCount()", x.getFrameCount(), 3);
        CHECK.due("run(1)", x.run(1), OwnerDominance.ST_RUNNING);
        CHECK.due("getFrameCount() after a return", x.getFrameCount(), 2);
        CHECK.due("getFrame(2, 0)", x.getFrame(2, 0), -2);
        CHECK.due("run(1)", x.run(1), OwnerDominance.ST_DONE);
        CHECK.due("getFrameCount() at the end", x.getFrameCount(), 1);
        CHECK.due("getFrame(1, 0)", x.getFrame(1, 0), -2);
        x.restart();
        CHECK.due("getFrameCount() after a start", x.getFrameCount(), 1);
    }

    private static void noSuchFrame() {
        CHECK.says(UNLESS + " .. what 0: the body (8 for main);");
        OwnerDominance x = threeFrames();
        for (int frame : Ints.notIn(0, 2)) {
            for (int what = -1; what <= 12; what++) {
                CHECK.due("getFrame(" + frame + ", " + what + ")", x.getFrame(frame, what), -2);
            }
        }
    }

    private static void noSuchPart() {
        CHECK.says(UNLESS);
        OwnerDominance x = threeFrames();
        for (int what : Ints.notIn(0, 11)) {
            for (int frame = -1; frame <= 3; frame++) {
                CHECK.due("getFrame(" + frame + ", " + what + ")", x.getFrame(frame, what), -2);
            }
        }
    }

    private static void everyPart() {
        CHECK.says("what 0: the body (8 for main); what 1: pc; what 2: receiver; what 3: return variable;"
                + " what 4..11: v0..v7.");
        OwnerDominance x = threeFrames();
        int[][] due = {
            {8, 3, -1, -1, 0, -1, -1, -1, -1, 1, -1, -1},
            {1, 6, 1, 6, 1, 0, 2, 3, 4, 5, 6, -1},
            {0, 0, 3, 7, 3, 4, -1, -1, -1, -1, -1, -1}};
        for (int frame = 0; frame < 3; frame++) {
            for (int what = 0; what < 12; what++) {
                CHECK.due("getFrame(" + frame + ", " + what + ")", x.getFrame(frame, what), due[frame][what]);
            }
        }
    }

    private static void eightFrames() {
        CHECK.says("`getFrame(frame, what)` answers -2 unless frame is in 0..n-1");
        OwnerDominance x = Frozen.depthStop();
        CHECK.due("getFrameCount()", x.getFrameCount(), 8);
        int[] last = {0, 0, 0, 2, 0, 0, -1, -1, -1, -1, -1, -1};
        for (int what = 0; what < 12; what++) {
            CHECK.due("getFrame(7, " + what + ")", x.getFrame(7, what), last[what]);
            for (int frame : Ints.notIn(0, 7)) {
                CHECK.due("getFrame(" + frame + ", " + what + ")", x.getFrame(frame, what), -2);
            }
        }
        for (int frame = 0; frame < 8; frame++) {
            CHECK.due("getFrame(" + frame + ", 12)", x.getFrame(frame, 12), -2);
            CHECK.due("getFrame(" + frame + ", -1)", x.getFrame(frame, -1), -2);
        }
    }

    private static void remainAfterEveryStop() {
        CHECK.says("its objects and frames stay as they were and remain readable. .. `getFrameCount()` answers");
        int[] counts = {1, 1, 1, 8, 1, 1};
        int[] pcs = {1, 1, 1, 2, 4, 2};
        int i = 0;
        for (OwnerDominance x : Frozen.all()) {
            CHECK.due("getFrameCount() in status " + x.getStatus(), x.getFrameCount(), counts[i]);
            CHECK.due("pc of main in status " + x.getStatus(), x.getFrame(0, 1), pcs[i]);
            CHECK.due("one past the last", x.getFrame(counts[i], 0), -2);
            i++;
        }
    }

    private static void changeNothing() {
        CHECK.says("what 4..11: v0..v7. Neither method changes anything.");
        OwnerDominance x = threeFrames();
        String before = Snapshot.of(x);
        for (int frame : Ints.ANY) {
            for (int what : Ints.ANY) {
                x.getFrame(frame, what);
            }
        }
        for (int frame = -1; frame <= 3; frame++) {
            for (int what = -1; what <= 12; what++) {
                x.getFrame(frame, what);
                x.getFrameCount();
            }
        }
        CHECK.same("after reading", Snapshot.of(x), before);
    }
}
