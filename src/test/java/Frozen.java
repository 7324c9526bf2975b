import java.util.ArrayList;
import java.util.List;

/** One object for every status that a frozen program can have, ST_RUNNING included. */
final class Frozen {
    private Frozen() {
    }

    static List<OwnerDominance> all() {
        List<OwnerDominance> objects = new ArrayList<>();
        objects.add(running());
        objects.add(done());
        objects.add(nullStop());
        objects.add(depthStop());
        objects.add(heapFull());
        objects.add(violation());
        return objects;
    }

    static OwnerDominance running() {
        OwnerDominance x = oneClass();
        x.addStmt(8, OwnerDominance.OP_NEW, 0, 0);
        x.addStmt(8, OwnerDominance.OP_NULL, 1, 0);
        return ran(x, 1, OwnerDominance.ST_RUNNING);
    }

    static OwnerDominance done() {
        OwnerDominance x = oneClass();
        x.addStmt(8, OwnerDominance.OP_NEW, 3, 0);
        return ran(x, 16, OwnerDominance.ST_DONE);
    }

    static OwnerDominance nullStop() {
        OwnerDominance x = oneClass();
        x.addStmt(8, OwnerDominance.OP_NEW, 2, 0);
        x.addStmt(8, OwnerDominance.OP_LOAD, 0, 1);
        return ran(x, 16, OwnerDominance.ST_NULL);
    }

    static OwnerDominance depthStop() {
        OwnerDominance x = oneClass();
        x.setLocal(0, 2, Types.type(0, Types.OWNER));
        x.setSignature(0, Types.type(0, Types.OWNER), Types.type(0, Types.OWNER));
        x.addStmt(0, OwnerDominance.OP_CALL, 2, 0);
        x.addStmt(8, OwnerDominance.OP_NEW, 0, 0);
        x.addStmt(8, OwnerDominance.OP_CALL, 1, 0);
        return ran(x, 16, OwnerDominance.ST_DEPTH);
    }

    static OwnerDominance heapFull() {
        OwnerDominance x = oneClass();
        for (int i = 0; i < 5; i++) {
            x.addStmt(8, OwnerDominance.OP_NEW, i, 0);
        }
        return ran(x, 16, OwnerDominance.ST_HEAPFULL);
    }

    static OwnerDominance violation() {
        OwnerDominance x = oneClass();
        int rep = Types.type(0, Types.REP);
        x.setLocal(0, 2, rep);
        x.setSignature(0, 0, rep);
        x.addStmt(0, OwnerDominance.OP_NEW, 2, rep);
        x.addStmt(0, OwnerDominance.OP_RETURN, 2, 0);
        x.addStmt(8, OwnerDominance.OP_NEW, 0, 0);
        x.addStmt(8, OwnerDominance.OP_CALL, 1, 0);
        return ran(x, 16, OwnerDominance.ST_VIOLATION);
    }

    private static OwnerDominance oneClass() {
        OwnerDominance x = new OwnerDominance(4);
        x.addClass(0);
        x.addField(0, 0);
        return x;
    }

    private static OwnerDominance ran(OwnerDominance x, int steps, int due) {
        int code = x.compile(OwnerDominance.MODE_UNCHECKED);
        int status = x.run(steps);
        if (code != OwnerDominance.E_OK || status != due) {
            System.out.println("a helper's program answered compile " + code + " and run " + status
                    + ", due is 0 and " + due);
            System.exit(1);
        }
        return x;
    }
}
