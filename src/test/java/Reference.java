import java.util.ArrayList;
import java.util.Arrays;
import java.util.List;

/** The document said once more, word by word and with the Java library, to compare OwnerDominance with. */
final class Reference {
    private static final class Body {
        final int id;
        final int formals;
        final List<Integer> fields = new ArrayList<>();
        int param = 0;
        int ret = 0;
        final int[] locals = new int[8];
        final List<int[]> stmts = new ArrayList<>();

        Body(int id, int formals) {
            this.id = id;
            this.formals = formals;
        }

        boolean isMain() {
            return id == 8;
        }

        int decl(int v) {
            if (!isMain() && v == 0) {
                return id + 16 * 1 + (formals >= 1 ? 256 * 3 : 0) + (formals >= 2 ? 4096 * 4 : 0);
            }
            return !isMain() && v == 1 ? param : locals[v];
        }
    }

    private static final class Thing {
        int cls;
        final int[] owners = {-1, -1, -1};
        final int[] fields = {-1, -1, -1, -1};
    }

    private static final class Frame {
        final Body body;
        final int receiver;
        final int returnVariable;
        int pc = 0;
        final int[] v = {-1, -1, -1, -1, -1, -1, -1, -1};

        Frame(Body body, int receiver, int returnVariable) {
            this.body = body;
            this.receiver = receiver;
            this.returnVariable = returnVariable;
        }
    }

    /** An error of compile, with its code. */
    private static final class Wrong extends RuntimeException {
        private static final long serialVersionUID = 1L;
        final int code;

        Wrong(int code) {
            super(null, null, false, false);
            this.code = code;
        }
    }

    private final int capacity;
    private final List<Body> classes = new ArrayList<>();
    private final Body mainBody = new Body(8, 0);
    private final List<Thing> heap = new ArrayList<>();
    private final List<Frame> frames = new ArrayList<>();
    private int status = 0;
    private int errorAt = -1;

    Reference(int capacity) {
        this.capacity = Math.max(4, Math.min(32, capacity));
    }

    private boolean isClass(int cls) {
        return cls >= 0 && cls < classes.size();
    }

    private boolean isBody(int body) {
        return body == 8 || isClass(body);
    }

    private Body body(int id) {
        return id == 8 ? mainBody : classes.get(id);
    }

    int addClass(int formals) {
        if (status != 0 || formals < 0 || formals > 2 || classes.size() == 8) {
            return -1;
        }
        classes.add(new Body(classes.size(), formals));
        return classes.size() - 1;
    }

    int addField(int cls, int type) {
        if (status != 0 || !isClass(cls) || body(cls).fields.size() == 4) {
            return -1;
        }
        body(cls).fields.add(type);
        return body(cls).fields.size() - 1;
    }

    boolean setSignature(int cls, int paramType, int retType) {
        if (status != 0 || !isClass(cls)) {
            return false;
        }
        body(cls).param = paramType;
        body(cls).ret = retType;
        return true;
    }

    boolean setLocal(int body, int v, int type) {
        if (status != 0 || !isBody(body) || v < 0 || v > 7 || body != 8 && v < 2) {
            return false;
        }
        body(body).locals[v] = type;
        return true;
    }

    int addStmt(int body, int op, int a, int b) {
        if (status != 0 || !isBody(body) || body(body).stmts.size() == 16) {
            return -1;
        }
        body(body).stmts.add(new int[] {op, a, b});
        return body(body).stmts.size() - 1;
    }

    private static int slot(int t, int i) {
        return new int[] {(t >> 4) & 15, (t >> 8) & 15, (t >> 12) & 15}[i];
    }

    private static boolean outside(int a, int b) {
        return a == b || a == 0 || b == 2 && (a == 1 || a == 3 || a == 4) || b == 1 && (a == 3 || a == 4);
    }

    private void valid(int t, Body k, int mode) {
        if (t < 0 || t > 65535 || (t & 15) >= classes.size()) {
            throw new Wrong(1);
        }
        int last = classes.get(t & 15).formals;
        for (int i = 0; i < 3; i++) {
            if (i <= last ? slot(t, i) > 4 : slot(t, i) != 0) {
                throw new Wrong(1);
            }
        }
        for (int i = 0; i <= last; i++) {
            int atom = slot(t, i);
            boolean allowed = k.isMain() ? atom == 0
                    : atom <= 2 || atom == 3 && k.formals >= 1 || atom == 4 && k.formals >= 2;
            if (!allowed) {
                throw new Wrong(2);
            }
        }
        for (int i = 1; i <= last; i++) {
            if (mode == 1 && !outside(slot(t, i), slot(t, 0))) {
                throw new Wrong(3);
            }
        }
    }

    private static void match(int s, int t, int mode) {
        if (mode == 1 ? s != t : (s & 15) != (t & 15)) {
            throw new Wrong(5);
        }
    }

    private int subst(int t, int y, Body k, int mode) {
        int r = k.decl(y);
        int result = t & 15;
        int factor = 16;
        for (int i = 0; i <= classes.get(t & 15).formals; i++) {
            int atom = slot(t, i);
            int to = atom == 1 ? slot(r, 0) : atom == 3 ? slot(r, 1) : atom == 4 ? slot(r, 2) : atom;
            if (atom == 2 && (k.isMain() || y != 0)) {
                if (mode == 1) {
                    throw new Wrong(6);
                }
                to = 0;
            }
            result += factor * to;
            factor *= 16;
        }
        return result;
    }

    private void stmt(int[] s, Body k, int mode) {
        int op = s[0];
        int a = s[1];
        int b = s[2];
        boolean wrong = op < 1 || op > 7 || a < 0 || a > 7
                || op == 2 && (b < 0 || b > 7) || op >= 3 && op <= 5 && (b < 0 || b > 63)
                || k.isMain() && op == 7
                || !k.isMain() && a == 0 && (op == 1 || op == 2 || op == 3 || op == 5 || op == 6);
        if (wrong) {
            throw new Wrong(4);
        }
        int y = b % 8;
        int q = b / 8;
        if (op == 1) {
            valid(b, k, mode);
            match(b, k.decl(a), mode);
        } else if (op == 2) {
            match(k.decl(b), k.decl(a), mode);
        } else if (op == 3) {
            match(subst(fieldOf(k.decl(y), q), y, k, mode), k.decl(a), mode);
        } else if (op == 4) {
            match(subst(fieldOf(k.decl(a), q), a, k, mode), k.decl(y), mode);
        } else if (op == 5) {
            Body d = classes.get(k.decl(y) & 15);
            match(subst(d.param, y, k, mode), k.decl(q), mode);
            match(subst(d.ret, y, k, mode), k.decl(a), mode);
        } else if (op == 7) {
            match(k.decl(a), k.ret, mode);
        }
    }

    private int fieldOf(int type, int q) {
        Body d = classes.get(type & 15);
        if (q >= d.fields.size()) {
            throw new Wrong(4);
        }
        return d.fields.get(q);
    }

    private void check(int mode) {
        List<Body> bodies = new ArrayList<>(classes);
        bodies.add(mainBody);
        for (Body c : classes) {
            for (int f = 0; f < c.fields.size(); f++) {
                errorAt = c.id * 32 + f;
                valid(c.fields.get(f), c, mode);
            }
            errorAt = c.id * 32 + 4;
            valid(c.param, c, mode);
            errorAt = c.id * 32 + 5;
            valid(c.ret, c, mode);
        }
        for (Body k : bodies) {
            for (int v = k.isMain() ? 0 : 2; v < 8; v++) {
                errorAt = k.id * 32 + 8 + v;
                valid(k.decl(v), k, mode);
            }
        }
        for (Body k : bodies) {
            for (int i = 0; i < k.stmts.size(); i++) {
                errorAt = k.id * 32 + 16 + i;
                stmt(k.stmts.get(i), k, mode);
            }
        }
        errorAt = -1;
    }

    /** What compile would say of one statement, if all types of the program are good. */
    int codeOf(int body, int op, int a, int b, int mode) {
        try {
            stmt(new int[] {op, a, b}, body(body), mode);
            return 0;
        } catch (Wrong wrong) {
            return wrong.code;
        }
    }

    /** What VALID says of a type in a body. */
    int codeOfType(int type, int body, int mode) {
        try {
            valid(type, body(body), mode);
            return 0;
        } catch (Wrong wrong) {
            return wrong.code;
        }
    }

    int compile(int mode) {
        if (status != 0 || mode != 0 && mode != 1) {
            return -1;
        }
        try {
            check(mode);
        } catch (Wrong wrong) {
            return wrong.code;
        }
        start();
        return 0;
    }

    private void start() {
        heap.clear();
        frames.clear();
        frames.add(new Frame(mainBody, -1, -1));
        status = 1;
    }

    int getErrorAt() {
        return errorAt;
    }

    private boolean finished() {
        return frames.size() == 1 && frames.get(0).pc >= mainBody.stmts.size();
    }

    int run(int steps) {
        if (status != 1 || steps < 1) {
            return status;
        }
        if (finished()) {
            status = 2;
        }
        for (int i = 0; status == 1 && i < Math.min(steps, 16); i++) {
            step();
            if (status == 1 && !dominance()) {
                status = 6;
            }
            if (status == 1 && finished()) {
                status = 2;
            }
        }
        return status;
    }

    private int val(int atom, int r) {
        switch (atom) {
            case 0: return -1;
            case 1: return heap.get(r).owners[0];
            case 2: return r;
            case 3: return heap.get(r).owners[1];
            default: return heap.get(r).owners[2];
        }
    }

    private void leave(int value) {
        Frame popped = frames.remove(frames.size() - 1);
        frames.get(frames.size() - 1).v[popped.returnVariable] = value;
    }

    private void step() {
        Frame top = frames.get(frames.size() - 1);
        if (top.pc >= top.body.stmts.size()) {
            leave(-1);
            return;
        }
        int op = top.body.stmts.get(top.pc)[0];
        int a = top.body.stmts.get(top.pc)[1];
        int b = top.body.stmts.get(top.pc)[2];
        int subject = op == 3 || op == 5 ? top.v[b % 8] : op == 4 ? top.v[a] : 0;
        if (subject == -1) {
            status = 3;
        } else if (op == 5 && frames.size() == 8) {
            status = 4;
        } else if (op == 1 && heap.size() == capacity) {
            status = 5;
        } else if (op == 7) {
            leave(top.v[a]);
        } else {
            top.pc++;
            act(top, op, a, b);
        }
    }

    private void act(Frame top, int op, int a, int b) {
        if (op == 1) {
            Thing made = new Thing();
            made.cls = b & 15;
            for (int i = 0; i <= classes.get(made.cls).formals; i++) {
                made.owners[i] = val(slot(b, i), top.receiver);
            }
            top.v[a] = heap.size();
            heap.add(made);
        } else if (op == 2) {
            top.v[a] = top.v[b];
        } else if (op == 3) {
            top.v[a] = heap.get(top.v[b % 8]).fields[b / 8];
        } else if (op == 4) {
            heap.get(top.v[a]).fields[b / 8] = top.v[b % 8];
        } else if (op == 5) {
            int receiver = top.v[b % 8];
            Frame pushed = new Frame(classes.get(heap.get(receiver).cls), receiver, a);
            pushed.v[0] = receiver;
            pushed.v[1] = top.v[b / 8];
            frames.add(pushed);
        } else {
            top.v[a] = -1;
        }
    }

    private boolean inside(int x, int o) {
        return o == -1 || x == o || x != -1 && inside(heap.get(x).owners[0], o);
    }

    private boolean dominance() {
        boolean holds = true;
        for (int a = 0; a < heap.size(); a++) {
            for (int b : heap.get(a).fields) {
                holds &= b < 0 || inside(a, heap.get(b).owners[0]);
            }
        }
        for (Frame frame : frames) {
            for (int b : frame.v) {
                int owner = b < 0 ? -1 : heap.get(b).owners[0];
                holds &= frame.receiver < 0 ? owner == -1 : inside(frame.receiver, owner);
            }
        }
        return holds;
    }

    boolean restart() {
        if (status == 0) {
            return false;
        }
        start();
        return true;
    }

    int getStatus() {
        return status;
    }

    int getObjectCount() {
        return heap.size();
    }

    int getObject(int obj, int what) {
        if (obj < 0 || obj >= heap.size() || what < 0 || what > 7) {
            return -2;
        }
        Thing thing = heap.get(obj);
        return what == 0 ? thing.cls : what <= 3 ? thing.owners[what - 1] : thing.fields[what - 4];
    }

    int getFrameCount() {
        return frames.size();
    }

    int getFrame(int frame, int what) {
        if (frame < 0 || frame >= frames.size() || what < 0 || what > 11) {
            return -2;
        }
        Frame f = frames.get(frame);
        List<Integer> head = Arrays.asList(f.body.id, f.pc, f.receiver, f.returnVariable);
        return what < 4 ? head.get(what) : f.v[what - 4];
    }

    int getDecl(int body, int item) {
        if (!isBody(body) || item < 0 || item > 16 || body == 8 && item < 8) {
            return -2;
        }
        Body k = body(body);
        if (item < 4) {
            return item < k.fields.size() ? k.fields.get(item) : -2;
        }
        List<Integer> middle = Arrays.asList(k.param, k.ret, k.formals, k.fields.size());
        return item < 8 ? middle.get(item - 4) : item < 16 ? k.decl(item - 8) : k.stmts.size();
    }

    int getStmt(int body, int index, int part) {
        if (!isBody(body) || index < 0 || index >= body(body).stmts.size() || part < 0 || part > 2) {
            return -2;
        }
        return body(body).stmts.get(index)[part];
    }
}
