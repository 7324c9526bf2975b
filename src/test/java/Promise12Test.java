/** Promise 12: getFrameCount and getFrame. */
public final class Promise12Test {
    private static final Check CHECK = new Check();
    private static final int[] FAR = {-1, -2, 12, 13, 96, Integer.MIN_VALUE, Integer.MAX_VALUE};

    public static void main(String[] args) {
        noneInEdit();
        everyPart();
        remainAfterEveryStop();
        CHECK.end();
    }

    private static void noFrames(OwnerDominance x) {
        CHECK.due("getFrameCount()", x.getFrameCount(), 0);
        for (int frame = -1; frame <= 8; frame++) {
            for (int what = 0; what < 12; what++) {
                CHECK.due("getFrame(" + frame + ", " + what + ")", x.getFrame(frame, what), -2);
            }
        }
    }

    private static void noneInEdit() {
        OwnerDominance x = new OwnerDominance(8);
        noFrames(x);
        x.compile(1);
        noFrames(x);
        x.addClass(0);
        noFrames(x);
        x.compile(1);
        CHECK.due("getFrameCount()", x.getFrameCount(), 1);
        CHECK.due("getFrame(0, 0)", x.getFrame(0, 0), 8);
    }

    private static void everyPart() {
        OwnerDominance x = new OwnerDominance(8);
        x.addClass(0);
        x.addClass(0);
        x.setSignature(1, 0, 0);
        for (int v = 2; v < 7; v++) {
            x.addStmt(1, OwnerDominance.OP_NEW, v, 0);
        }
        x.addStmt(1, OwnerDominance.OP_CALL, 7, 8 * 4 + 3);
        x.setLocal(8, 5, 1);
        x.addStmt(8, OwnerDominance.OP_NEW, 0, 0);
        x.addStmt(8, OwnerDominance.OP_NEW, 5, 1);
        x.addStmt(8, OwnerDominance.OP_CALL, 6, 8 * 0 + 5);
        CHECK.due("compile(1)", x.compile(1), 0);
        CHECK.due("run(9)", x.run(9), OwnerDominance.ST_RUNNING);
        CHECK.due("getFrameCount()", x.getFrameCount(), 3);
        int[][] due = {
            {8, 3, -1, -1, 0, -1, -1, -1, -1, 1, -1, -1},
            {1, 6, 1, 6, 1, 0, 2, 3, 4, 5, 6, -1},
            {0, 0, 3, 7, 3, 4, -1, -1, -1, -1, -1, -1}};
        for (int frame = 0; frame < 3; frame++) {
            for (int what = 0; what < 12; what++) {
                CHECK.due("getFrame(" + frame + ", " + what + ")", x.getFrame(frame, what), due[frame][what]);
            }
        }
        String before = Snapshot.of(x);
        for (int far : FAR) {
            for (int i = 0; i < 3; i++) {
                CHECK.due("getFrame(" + i + ", " + far + ")", x.getFrame(i, far), -2);
                CHECK.due("getFrame(" + far + ", " + i + ")", x.getFrame(far, i), -2);
            }
        }
        for (int what = 0; what < 12; what++) {
            CHECK.due("getFrame(3, " + what + ")", x.getFrame(3, what), -2);
            CHECK.due("getFrame(-1, " + what + ")", x.getFrame(-1, what), -2);
        }
        CHECK.same("after reading", Snapshot.of(x), before);
        CHECK.due("run(1)", x.run(1), OwnerDominance.ST_RUNNING);
        CHECK.due("getFrameCount()", x.getFrameCount(), 2);
        CHECK.due("getFrame(2, 0)", x.getFrame(2, 0), -2);
    }

    private static void remainAfterEveryStop() {
        int[] counts = {1, 1, 1, 8, 1, 1};
        int[] pcs = {1, 1, 1, 2, 4, 2};
        int i = 0;
        for (OwnerDominance x : Frozen.all()) {
            CHECK.due("getFrameCount() in status " + x.getStatus(), x.getFrameCount(), counts[i]);
            CHECK.due("pc of main in status " + x.getStatus(), x.getFrame(0, 1), pcs[i]);
            i++;
        }
    }
}
