import java.util.Arrays;

/** All promises: made-up programs, built and run on OwnerDominance and on the reference side by side. */
public final class ReferenceTest {
    private static final Check CHECK = new Check();
    private static final int PROGRAMS = 10000;
    private static final int[] ODD = {-1, -2, 8, 9, 16, 17, 63, 64, 65535, 65536, Integer.MIN_VALUE, Integer.MAX_VALUE};

    // Calls and stores stand here more than once: they are what the machine is about.
    private static final int[] OPS = {1, 2, 3, 3, 4, 4, 4, 4, 5, 5, 5, 5, 5, 5, 6, 7};

    private final int seed;
    private long state;
    private OwnerDominance x;
    private Reference r;
    private int mode;
    private int classes;
    private boolean wildTypes;
    private boolean wildStatements;

    private ReferenceTest(int seed) {
        this.seed = seed;
        this.state = seed * 7919L + 17;
    }

    public static void main(String[] args) {
        int[] stops = new int[7];
        for (int seed = 0; seed < PROGRAMS; seed++) {
            stops[new ReferenceTest(seed).program()]++;
        }
        System.out.println("programs by status: " + Arrays.toString(stops));
        // The comparison is worth something only if the programs reach every status.
        for (int status = 0; status < stops.length; status++) {
            CHECK.due("at least 100 programs end in status " + status + " (" + stops[status] + ")",
                    status == OwnerDominance.ST_RUNNING || stops[status] >= 100, true);
        }
        CHECK.end();
    }

    /** A fixed sequence: the same numbers in every run of the test. */
    private int below(int bound) {
        state = state * 6364136223846793005L + 1442695040888963407L;
        return (int) ((state >>> 33) % bound);
    }

    private boolean oneIn(int bound) {
        return below(bound) == 0;
    }

    private int program() {
        int capacity = oneIn(3) ? below(40) - 3 : 32;
        x = new OwnerDominance(capacity);
        r = new Reference(capacity);
        mode = oneIn(3) ? 1 : 0;
        classes = oneIn(10) ? below(9) : 1 + below(1 + below(4));
        for (int c = 0; c < classes; c++) {
            addClass(below(3));
        }
        wildTypes = classes == 0 || oneIn(8);
        wildStatements = oneIn(8);
        declare();
        statements();
        compare();
        due("compile", x.compile(mode), r.compile(mode));
        compare();
        for (int i = 0; i < 5 && r.getStatus() == 0; i++) {
            oddCall();
        }
        due("compile", x.compile(1 - mode), r.compile(1 - mode));
        compare();
        machine();
        return x.getStatus();
    }

    private void machine() {
        for (int i = 0; i < 40 && r.getStatus() <= 1; i++) {
            int steps = oneIn(10) ? below(20) - 2 : 1 + below(3);
            due("run(" + steps + ")", x.run(steps), r.run(steps));
            compare();
            if (oneIn(60)) {
                due("restart()", x.restart() ? 1 : 0, r.restart() ? 1 : 0);
                compare();
            }
            if (oneIn(20)) {
                oddCall();
            }
        }
        if (oneIn(4)) {
            due("restart()", x.restart() ? 1 : 0, r.restart() ? 1 : 0);
            for (int i = 0; i < 30; i++) {
                due("run(16)", x.run(16), r.run(16));
                compare();
            }
        }
    }

    private void declare() {
        for (int c = 0; c < classes; c++) {
            for (int f = below(5); f > 0; f--) {
                addField(c, someType(c));
            }
            setSignature(c, someType(c), someType(c));
        }
        for (int i = 0; i <= classes; i++) {
            int body = i < classes ? i : 8;
            for (int v = body == 8 ? 0 : 2; v < 8; v++) {
                setLocal(body, v, someType(body));
            }
        }
    }

    /** A type that is good in the body, but for one here and there if types are wild. */
    private int someType(int body) {
        if (wildTypes && oneIn(30)) {
            return oneIn(2) ? below(65536) : ODD[below(ODD.length)];
        }
        for (int i = 0; i < 200; i++) {
            int type = below(Math.max(1, classes)) + 16 * below(5) + 256 * below(5) + 4096 * below(5);
            type &= oneIn(2) ? 0xffff : oneIn(2) ? 0xfff : 0xff;
            if (r.codeOfType(type, body, mode) == 0) {
                return type;
            }
        }
        return 0;
    }

    /** Most bodies make objects first and then work on those, since null would soon stop the machine. */
    private void statements() {
        for (int i = 0; i <= classes; i++) {
            int body = i < classes ? i : 8;
            int first = body == 8 ? 0 : 2;
            int made = body == 8 ? 4 + below(5) : below(5);
            if (oneIn(9)) {
                made = 0;
            }
            for (int v = first; v < first + made && v < 8; v++) {
                addStmt(body, OwnerDominance.OP_NEW, v, r.getDecl(body, 8 + v));
            }
            int count = oneIn(5) ? below(20) : 3 + below(8);
            for (int s = 0; s < count; s++) {
                statement(body, made);
            }
        }
    }

    /** The first of many tries that compile accepts. */
    private void statement(int body, int made) {
        if (wildStatements && oneIn(25)) {
            addStmt(body, below(10) - 1, below(10) - 1, oneIn(2) ? below(70) - 3 : ODD[below(ODD.length)]);
            return;
        }
        // Wild types may be no types at all, and statements can't be tried on those.
        for (int i = 0; !wildTypes && i < 100; i++) {
            int op = OPS[below(OPS.length)];
            int subject = subject(body, made);
            int a = op == OwnerDominance.OP_STORE ? subject : below(8);
            int q = below(op == OwnerDominance.OP_CALL ? 8 : 4);
            int b = op == OwnerDominance.OP_NEW ? r.getDecl(body, 8 + a)
                    : op == OwnerDominance.OP_MOVE ? below(8)
                    : op == OwnerDominance.OP_STORE ? 8 * q + below(8) : 8 * q + subject;
            if (r.codeOf(body, op, a, b, mode) == 0) {
                addStmt(body, op, a, b);
                return;
            }
        }
        addStmt(body, OwnerDominance.OP_NULL, 2, 0);
    }

    /** A local that is hardly null: this, or one that the body has put a new object into. */
    private int subject(int body, int made) {
        if (oneIn(10)) {
            return below(8);
        }
        if (body == 8) {
            return below(Math.max(1, Math.min(made, 8)));
        }
        return made == 0 || oneIn(4) ? 0 : 2 + below(made);
    }

    private void oddCall() {
        int first = odd();
        int second = odd();
        int third = odd();
        int fourth = odd();
        switch (below(10)) {
            case 0: addClass(first); break;
            case 1: addField(first, second); break;
            case 2: setSignature(first, second, third); break;
            case 3: setLocal(first, second, third); break;
            case 4: addStmt(first, second, third, fourth); break;
            case 5: due("getDecl", x.getDecl(first, second), r.getDecl(first, second)); break;
            case 6: due("getStmt", x.getStmt(first, second, third), r.getStmt(first, second, third)); break;
            case 7: due("getObject", x.getObject(first, second), r.getObject(first, second)); break;
            case 8: due("getFrame", x.getFrame(first, second), r.getFrame(first, second)); break;
            default: due("compile", x.compile(first), r.compile(first)); break;
        }
        compare();
    }

    private int odd() {
        return oneIn(2) ? below(10) - 1 : ODD[below(ODD.length)];
    }

    private void due(String call, int got, int want) {
        CHECK.due("program " + seed + ": " + call, got, want);
    }

    private void addClass(int formals) {
        due("addClass(" + formals + ")", x.addClass(formals), r.addClass(formals));
    }

    private void addField(int cls, int type) {
        due("addField(" + cls + ", " + type + ")", x.addField(cls, type), r.addField(cls, type));
    }

    private void setSignature(int cls, int param, int ret) {
        due("setSignature", x.setSignature(cls, param, ret) ? 1 : 0, r.setSignature(cls, param, ret) ? 1 : 0);
    }

    private void setLocal(int body, int v, int type) {
        due("setLocal", x.setLocal(body, v, type) ? 1 : 0, r.setLocal(body, v, type) ? 1 : 0);
    }

    private void addStmt(int body, int op, int a, int b) {
        due("addStmt(" + body + ", ..)", x.addStmt(body, op, a, b), r.addStmt(body, op, a, b));
    }

    private void compare() {
        due("getStatus()", x.getStatus(), r.getStatus());
        due("getErrorAt()", x.getErrorAt(), r.getErrorAt());
        due("getObjectCount()", x.getObjectCount(), r.getObjectCount());
        due("getFrameCount()", x.getFrameCount(), r.getFrameCount());
        for (int obj = 0; obj <= r.getObjectCount(); obj++) {
            for (int what = 0; what <= 7; what++) {
                due("getObject(" + obj + ", " + what + ")", x.getObject(obj, what), r.getObject(obj, what));
            }
        }
        for (int frame = 0; frame <= r.getFrameCount(); frame++) {
            for (int what = 0; what <= 11; what++) {
                due("getFrame(" + frame + ", " + what + ")", x.getFrame(frame, what), r.getFrame(frame, what));
            }
        }
        if (r.getStatus() == 0) {
            for (int body = 0; body <= 8; body++) {
                for (int item = 0; item <= 16; item++) {
                    due("getDecl(" + body + ", " + item + ")", x.getDecl(body, item), r.getDecl(body, item));
                }
            }
        }
    }
}
