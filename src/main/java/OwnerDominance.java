/** A checker for ownership types and a small object machine that tests owners-as-dominators. */
public final class OwnerDominance {
    public static final int A_WORLD = 0;
    public static final int A_OWNER = 1;
    public static final int A_REP = 2;
    public static final int A_P1 = 3;
    public static final int A_P2 = 4;
    public static final int OP_NEW = 1;
    public static final int OP_MOVE = 2;
    public static final int OP_LOAD = 3;
    public static final int OP_STORE = 4;
    public static final int OP_CALL = 5;
    public static final int OP_NULL = 6;
    public static final int OP_RETURN = 7;
    public static final int BODY_MAIN = 8;
    public static final int MODE_UNCHECKED = 0;
    public static final int MODE_CHECKED = 1;
    public static final int E_OK = 0;
    public static final int E_BADTYPE = 1;
    public static final int E_CONTEXT = 2;
    public static final int E_WELLFORMED = 3;
    public static final int E_BADOPERAND = 4;
    public static final int E_MISMATCH = 5;
    public static final int E_REP = 6;
    public static final int ST_EDIT = 0;
    public static final int ST_RUNNING = 1;
    public static final int ST_DONE = 2;
    public static final int ST_NULL = 3;
    public static final int ST_DEPTH = 4;
    public static final int ST_HEAPFULL = 5;
    public static final int ST_VIOLATION = 6;

    private static final int MAX_CLASSES = 8;
    private static final int MAX_FORMALS = 2;
    private static final int MAX_FIELDS = 4;
    private static final int MAX_STMTS = 16;
    private static final int MAX_FRAMES = 8;
    private static final int MAX_STEPS = 16;
    private static final int MIN_OBJECTS = 4;
    private static final int MAX_OBJECTS = 32;
    private static final int BODIES = 9;
    private static final int LOCALS = 8;
    private static final int OWNERS = 3;
    private static final int MAX_TYPE = 65535;

    private static final int FIELD_TYPE_CELLS = MAX_CLASSES * MAX_FIELDS;
    private static final int DECL_CELLS = BODIES * LOCALS;
    private static final int STMT_CELLS = BODIES * MAX_STMTS;
    private static final int OWNER_CELLS = MAX_OBJECTS * OWNERS;
    private static final int FIELD_CELLS = MAX_OBJECTS * MAX_FIELDS;
    private static final int LOCAL_CELLS = MAX_FRAMES * LOCALS;

    private static final int THIS = 0;
    private static final int PARAM = 1;
    private static final int FIRST_FREE_LOCAL = 2;

    private static final int ITEM_PARAM = 4;
    private static final int ITEM_RETURN = 5;
    private static final int ITEM_FORMALS = 6;
    private static final int ITEM_FIELD_COUNT = 7;
    private static final int ITEM_LOCALS = 8;
    private static final int ITEM_STMTS = 16;
    private static final int ITEMS_PER_BODY = 32;

    private static final int REFUSED = -1;
    private static final int NO_ERROR_AT = -1;
    private static final int NO_SUCH = -2;
    private static final int NULL = -1;
    private static final int WORLD = -1;
    private static final int NO_RECEIVER = -1;
    private static final int NO_VARIABLE = -1;
    private static final int REP_ESCAPES = -1;

    private final int capacity;
    private int status = ST_EDIT;
    private int errorAt = NO_ERROR_AT;
    private boolean checked = false;

    private int classCount = 0;
    private final int[] formals = new int[MAX_CLASSES];
    private final int[] fieldCount = new int[MAX_CLASSES];
    private final int[] fieldType = new int[FIELD_TYPE_CELLS];
    private final int[] returnType = new int[MAX_CLASSES];
    // The self type and the parameter type of a class are held here as its locals 0 and 1.
    private final int[] declared = new int[DECL_CELLS];
    private final int[] stmtCount = new int[BODIES];
    private final int[] stmtOp = new int[STMT_CELLS];
    private final int[] stmtA = new int[STMT_CELLS];
    private final int[] stmtB = new int[STMT_CELLS];

    private int objectCount = 0;
    private final int[] objectClass = new int[MAX_OBJECTS];
    private final int[] objectOwner = new int[OWNER_CELLS];
    private final int[] objectField = new int[FIELD_CELLS];

    private int frameCount = 0;
    private final int[] frameBody = new int[MAX_FRAMES];
    private final int[] framePc = new int[MAX_FRAMES];
    private final int[] frameReceiver = new int[MAX_FRAMES];
    private final int[] frameReturnVariable = new int[MAX_FRAMES];
    private final int[] frameLocal = new int[LOCAL_CELLS];

    public OwnerDominance(int capacity) {
        int limit = capacity;
        if (limit < MIN_OBJECTS) {
            limit = MIN_OBJECTS;
        }
        if (limit > MAX_OBJECTS) {
            limit = MAX_OBJECTS;
        }
        this.capacity = limit;
    }

    // ---- editing ----

    public int addClass(int formals) {
        if (status != ST_EDIT || formals < 0 || formals > MAX_FORMALS || classCount >= MAX_CLASSES) {
            return REFUSED;
        }
        int id = classCount;
        classCount++;
        this.formals[id] = formals;
        declared[id * LOCALS + THIS] = selfType(id);
        return id;
    }

    public int addField(int cls, int type) {
        if (status != ST_EDIT || !isClass(cls) || fieldCount[cls] >= MAX_FIELDS) {
            return REFUSED;
        }
        int index = fieldCount[cls];
        fieldType[cls * MAX_FIELDS + index] = type;
        fieldCount[cls]++;
        return index;
    }

    public boolean setSignature(int cls, int paramType, int retType) {
        if (status != ST_EDIT || !isClass(cls)) {
            return false;
        }
        declared[cls * LOCALS + PARAM] = paramType;
        returnType[cls] = retType;
        return true;
    }

    public boolean setLocal(int body, int v, int type) {
        if (status != ST_EDIT || !isBody(body) || v < firstFreeLocal(body) || v >= LOCALS) {
            return false;
        }
        declared[body * LOCALS + v] = type;
        return true;
    }

    public int addStmt(int body, int op, int a, int b) {
        if (status != ST_EDIT || !isBody(body) || stmtCount[body] >= MAX_STMTS) {
            return REFUSED;
        }
        int index = stmtCount[body];
        int at = body * MAX_STMTS + index;
        stmtOp[at] = op;
        stmtA[at] = a;
        stmtB[at] = b;
        stmtCount[body]++;
        return index;
    }

    private boolean isClass(int cls) {
        return cls >= 0 && cls < classCount;
    }

    private boolean isBody(int body) {
        return body == BODY_MAIN || isClass(body);
    }

    private int firstFreeLocal(int body) {
        return body == BODY_MAIN ? 0 : FIRST_FREE_LOCAL;
    }

    private int selfType(int cls) {
        int type = cls + 16 * A_OWNER;
        if (formals[cls] >= 1) {
            type += 256 * A_P1;
        }
        if (formals[cls] >= 2) {
            type += 4096 * A_P2;
        }
        return type;
    }

    // ---- compiling ----

    public int compile(int mode) {
        if (status != ST_EDIT || (mode != MODE_UNCHECKED && mode != MODE_CHECKED)) {
            return REFUSED;
        }
        checked = mode == MODE_CHECKED;
        int code = checkSignatures();
        if (code == E_OK) {
            code = checkLocals();
        }
        if (code == E_OK) {
            code = checkStatements();
        }
        if (code == E_OK) {
            errorAt = NO_ERROR_AT;
            startMachine();
        }
        return code;
    }

    public int getErrorAt() {
        return errorAt;
    }

    private int errorIn(int body, int item, int code) {
        errorAt = body * ITEMS_PER_BODY + item;
        return code;
    }

    private int checkSignatures() {
        for (int c = 0; c < classCount; c++) {
            for (int f = 0; f < fieldCount[c]; f++) {
                int fieldCode = checkType(fieldType[c * MAX_FIELDS + f], c);
                if (fieldCode != E_OK) {
                    return errorIn(c, f, fieldCode);
                }
            }
            int paramCode = checkType(declared[c * LOCALS + PARAM], c);
            if (paramCode != E_OK) {
                return errorIn(c, ITEM_PARAM, paramCode);
            }
            int returnCode = checkType(returnType[c], c);
            if (returnCode != E_OK) {
                return errorIn(c, ITEM_RETURN, returnCode);
            }
        }
        return E_OK;
    }

    private int checkLocals() {
        for (int i = 0; i <= classCount; i++) {
            int body = i < classCount ? i : BODY_MAIN;
            int first = firstFreeLocal(body);
            for (int v = first; v < LOCALS; v++) {
                int code = checkType(declared[body * LOCALS + v], body);
                if (code != E_OK) {
                    return errorIn(body, ITEM_LOCALS + v, code);
                }
            }
        }
        return E_OK;
    }

    private int checkStatements() {
        for (int i = 0; i <= classCount; i++) {
            int body = i < classCount ? i : BODY_MAIN;
            for (int s = 0; s < stmtCount[body]; s++) {
                int at = body * MAX_STMTS + s;
                int code = checkOperands(body, at);
                if (code == E_OK) {
                    code = checkTyping(body, at);
                }
                if (code != E_OK) {
                    return errorIn(body, ITEM_STMTS + s, code);
                }
            }
        }
        return E_OK;
    }

    private int checkOperands(int body, int at) {
        int op = stmtOp[at];
        int a = stmtA[at];
        int b = stmtB[at];
        if (op < OP_NEW || op > OP_RETURN || a < 0 || a >= LOCALS) {
            return E_BADOPERAND;
        }
        if (op == OP_MOVE && (b < 0 || b >= LOCALS)) {
            return E_BADOPERAND;
        }
        boolean packed = op == OP_LOAD || op == OP_STORE || op == OP_CALL;
        if (packed && (b < 0 || b >= LOCALS * LOCALS)) {
            return E_BADOPERAND;
        }
        if (body == BODY_MAIN) {
            return op == OP_RETURN ? E_BADOPERAND : E_OK;
        }
        boolean assigns = op != OP_STORE && op != OP_RETURN;
        return a == THIS && assigns ? E_BADOPERAND : E_OK;
    }

    // Only after checkOperands: the operands serve as indices here.
    private int checkTyping(int body, int at) {
        int a = stmtA[at];
        int b = stmtB[at];
        int y = b % LOCALS;
        int q = b / LOCALS;
        int target = declared[body * LOCALS + a];
        switch (stmtOp[at]) {
            case OP_NEW:
                int code = checkType(b, body);
                return code == E_OK ? match(b, target) : code;
            case OP_MOVE:
                return match(declared[body * LOCALS + b], target);
            case OP_LOAD:
                return checkField(body, y, q, target);
            case OP_STORE:
                return checkField(body, a, q, declared[body * LOCALS + y]);
            case OP_CALL:
                return checkCall(body, y, declared[body * LOCALS + q], target);
            case OP_RETURN:
                return match(target, returnType[body]);
            default:
                return E_OK;
        }
    }

    private int checkField(int body, int holder, int field, int other) {
        int cls = declared[body * LOCALS + holder] & 15;
        if (field >= fieldCount[cls]) {
            return E_BADOPERAND;
        }
        int seen = substitute(fieldType[cls * MAX_FIELDS + field], body, holder);
        return match(seen, other);
    }

    private int checkCall(int body, int receiver, int argument, int result) {
        int cls = declared[body * LOCALS + receiver] & 15;
        int seenParam = substitute(declared[cls * LOCALS + PARAM], body, receiver);
        int code = match(seenParam, argument);
        if (code != E_OK) {
            return code;
        }
        int seenReturn = substitute(returnType[cls], body, receiver);
        return match(seenReturn, result);
    }

    // A substitution that failed is passed on as its own error, so that callers need one test only.
    private int match(int s, int t) {
        if (s == REP_ESCAPES) {
            return E_REP;
        }
        boolean same = checked ? s == t : (s & 15) == (t & 15);
        return same ? E_OK : E_MISMATCH;
    }

    private int substitute(int type, int body, int y) {
        int cls = type & 15;
        int result = cls;
        for (int i = 0; i <= formals[cls]; i++) {
            int atom = slot(type, i);
            int mapped = mapAtom(atom, body, y);
            if (mapped == REP_ESCAPES) {
                return REP_ESCAPES;
            }
            result += mapped << (4 + 4 * i);
        }
        return result;
    }

    private int mapAtom(int atom, int body, int y) {
        int seenAs = declared[body * LOCALS + y];
        switch (atom) {
            case A_OWNER:
                return (seenAs >> 4) & 15;
            case A_P1:
                return (seenAs >> 8) & 15;
            case A_P2:
                return (seenAs >> 12) & 15;
            case A_REP:
                if (body != BODY_MAIN && y == THIS) {
                    return A_REP;
                }
                return checked ? REP_ESCAPES : A_WORLD;
            default:
                return A_WORLD;
        }
    }

    private int slot(int type, int i) {
        return (type >> (4 + 4 * i)) & 15;
    }

    private int checkType(int type, int body) {
        if (!isEncoded(type)) {
            return E_BADTYPE;
        }
        int last = formals[type & 15];
        for (int i = 0; i <= last; i++) {
            int atom = slot(type, i);
            if (!isAllowed(atom, body)) {
                return E_CONTEXT;
            }
        }
        int owner = slot(type, 0);
        for (int i = 1; checked && i <= last; i++) {
            int argument = slot(type, i);
            if (!isOutside(argument, owner)) {
                return E_WELLFORMED;
            }
        }
        return E_OK;
    }

    private boolean isEncoded(int type) {
        if (type < 0 || type > MAX_TYPE || (type & 15) >= classCount) {
            return false;
        }
        int last = formals[type & 15];
        for (int i = 0; i < OWNERS; i++) {
            int greatest = i <= last ? A_P2 : 0;
            if (slot(type, i) > greatest) {
                return false;
            }
        }
        return true;
    }

    private boolean isAllowed(int atom, int body) {
        if (body == BODY_MAIN) {
            return atom == A_WORLD;
        }
        if (atom == A_P1) {
            return formals[body] >= 1;
        }
        if (atom == A_P2) {
            return formals[body] >= 2;
        }
        return true;
    }

    private boolean isOutside(int a, int b) {
        if (a == b || a == A_WORLD) {
            return true;
        }
        boolean formal = a == A_P1 || a == A_P2;
        if (b == A_REP) {
            return a == A_OWNER || formal;
        }
        return b == A_OWNER && formal;
    }

    // ---- running ----

    public int run(int steps) {
        if (status != ST_RUNNING || steps < 1) {
            return status;
        }
        int budget = steps < MAX_STEPS ? steps : MAX_STEPS;
        stopIfFinished();
        for (int i = 0; i < budget && status == ST_RUNNING; i++) {
            step();
            stopIfFinished();
        }
        return status;
    }

    public boolean restart() {
        if (status == ST_EDIT) {
            return false;
        }
        startMachine();
        return true;
    }

    private void startMachine() {
        objectCount = 0;
        frameCount = 0;
        pushFrame(BODY_MAIN, NO_RECEIVER, NO_VARIABLE);
        status = ST_RUNNING;
    }

    private void stopIfFinished() {
        if (status == ST_RUNNING && frameCount == 1 && framePc[0] >= stmtCount[BODY_MAIN]) {
            status = ST_DONE;
        }
    }

    private void step() {
        execute();
        if (status == ST_RUNNING && !isDominated()) {
            status = ST_VIOLATION;
        }
    }

    private void execute() {
        int top = frameCount - 1;
        int body = frameBody[top];
        if (framePc[top] >= stmtCount[body]) {
            popFrame(NULL);
            return;
        }
        int at = body * MAX_STMTS + framePc[top];
        int a = stmtA[at];
        int b = stmtB[at];
        switch (stmtOp[at]) {
            case OP_NEW:
                stepNew(a, b);
                break;
            case OP_MOVE:
                assign(a, frameLocal[top * LOCALS + b]);
                break;
            case OP_LOAD:
                stepLoad(a, b % LOCALS, b / LOCALS);
                break;
            case OP_STORE:
                stepStore(a, b % LOCALS, b / LOCALS);
                break;
            case OP_CALL:
                stepCall(a, b % LOCALS, b / LOCALS);
                break;
            case OP_NULL:
                assign(a, NULL);
                break;
            default:
                popFrame(frameLocal[top * LOCALS + a]);
                break;
        }
    }

    private void assign(int v, int value) {
        int top = frameCount - 1;
        frameLocal[top * LOCALS + v] = value;
        framePc[top]++;
    }

    private void stepNew(int a, int type) {
        if (objectCount >= capacity) {
            status = ST_HEAPFULL;
            return;
        }
        int id = objectCount;
        int cls = type & 15;
        int receiver = frameReceiver[frameCount - 1];
        objectClass[id] = cls;
        for (int i = 0; i < OWNERS; i++) {
            int atom = i <= formals[cls] ? slot(type, i) : A_WORLD;
            objectOwner[id * OWNERS + i] = ownerValue(atom, receiver);
        }
        for (int f = 0; f < MAX_FIELDS; f++) {
            objectField[id * MAX_FIELDS + f] = NULL;
        }
        objectCount++;
        assign(a, id);
    }

    private int ownerValue(int atom, int receiver) {
        // Main has no receiver; in either mode compile lets its types name nothing but world.
        if (receiver == NO_RECEIVER) {
            return WORLD;
        }
        switch (atom) {
            case A_OWNER:
                return objectOwner[receiver * OWNERS];
            case A_REP:
                return receiver;
            case A_P1:
                return objectOwner[receiver * OWNERS + 1];
            case A_P2:
                return objectOwner[receiver * OWNERS + 2];
            default:
                return WORLD;
        }
    }

    private void stepLoad(int a, int y, int field) {
        int holder = frameLocal[(frameCount - 1) * LOCALS + y];
        if (holder == NULL) {
            status = ST_NULL;
            return;
        }
        assign(a, objectField[holder * MAX_FIELDS + field]);
    }

    private void stepStore(int a, int y, int field) {
        int top = frameCount - 1;
        int holder = frameLocal[top * LOCALS + a];
        if (holder == NULL) {
            status = ST_NULL;
            return;
        }
        objectField[holder * MAX_FIELDS + field] = frameLocal[top * LOCALS + y];
        framePc[top]++;
    }

    private void stepCall(int a, int y, int q) {
        int top = frameCount - 1;
        int receiver = frameLocal[top * LOCALS + y];
        if (receiver == NULL) {
            status = ST_NULL;
            return;
        }
        if (frameCount >= MAX_FRAMES) {
            status = ST_DEPTH;
            return;
        }
        framePc[top]++;
        pushFrame(objectClass[receiver], receiver, a);
        int pushed = frameCount - 1;
        frameLocal[pushed * LOCALS + THIS] = receiver;
        frameLocal[pushed * LOCALS + PARAM] = frameLocal[top * LOCALS + q];
    }

    private void pushFrame(int body, int receiver, int returnVariable) {
        int frame = frameCount;
        frameBody[frame] = body;
        framePc[frame] = 0;
        frameReceiver[frame] = receiver;
        frameReturnVariable[frame] = returnVariable;
        for (int v = 0; v < LOCALS; v++) {
            frameLocal[frame * LOCALS + v] = NULL;
        }
        frameCount++;
    }

    // Never main's frame: main has no return statement, and it is finished where its statements end.
    private void popFrame(int value) {
        int popped = frameCount - 1;
        int caller = popped - 1;
        frameCount--;
        frameLocal[caller * LOCALS + frameReturnVariable[popped]] = value;
    }

    // ---- owners as dominators ----

    private boolean isDominated() {
        for (int a = 0; a < objectCount; a++) {
            for (int f = 0; f < MAX_FIELDS; f++) {
                if (!mayRefer(a, objectField[a * MAX_FIELDS + f])) {
                    return false;
                }
            }
        }
        for (int frame = 0; frame < frameCount; frame++) {
            for (int v = 0; v < LOCALS; v++) {
                if (!mayRefer(frameReceiver[frame], frameLocal[frame * LOCALS + v])) {
                    return false;
                }
            }
        }
        return true;
    }

    // Main refers as NO_RECEIVER, which is inside nothing but world.
    private boolean mayRefer(int from, int to) {
        return to == NULL || isInside(from, objectOwner[to * OWNERS]);
    }

    private boolean isInside(int x, int owner) {
        if (owner == WORLD) {
            return true;
        }
        int at = x;
        // An owner is older than what it owns, so the chain is no longer than the heap.
        for (int i = 0; i < MAX_OBJECTS && at != WORLD; i++) {
            if (at == owner) {
                return true;
            }
            at = objectOwner[at * OWNERS];
        }
        return false;
    }

    // ---- reading ----

    public int getStatus() {
        return status;
    }

    public int getObjectCount() {
        return objectCount;
    }

    public int getObject(int obj, int what) {
        if (obj < 0 || obj >= objectCount || what < 0 || what > OWNERS + MAX_FIELDS) {
            return NO_SUCH;
        }
        if (what == 0) {
            return objectClass[obj];
        }
        if (what <= OWNERS) {
            return objectOwner[obj * OWNERS + what - 1];
        }
        return objectField[obj * MAX_FIELDS + what - 1 - OWNERS];
    }

    public int getFrameCount() {
        return frameCount;
    }

    public int getFrame(int frame, int what) {
        if (frame < 0 || frame >= frameCount || what < 0 || what >= 4 + LOCALS) {
            return NO_SUCH;
        }
        switch (what) {
            case 0:
                return frameBody[frame];
            case 1:
                return framePc[frame];
            case 2:
                return frameReceiver[frame];
            case 3:
                return frameReturnVariable[frame];
            default:
                return frameLocal[frame * LOCALS + what - 4];
        }
    }

    public int getDecl(int body, int item) {
        if (!isBody(body)) {
            return NO_SUCH;
        }
        if (item >= ITEM_LOCALS && item < ITEM_LOCALS + LOCALS) {
            return declared[body * LOCALS + item - ITEM_LOCALS];
        }
        if (item == ITEM_STMTS) {
            return stmtCount[body];
        }
        return body == BODY_MAIN ? NO_SUCH : classItem(body, item);
    }

    private int classItem(int cls, int item) {
        if (item >= 0 && item < fieldCount[cls]) {
            return fieldType[cls * MAX_FIELDS + item];
        }
        switch (item) {
            case ITEM_PARAM:
                return declared[cls * LOCALS + PARAM];
            case ITEM_RETURN:
                return returnType[cls];
            case ITEM_FORMALS:
                return formals[cls];
            case ITEM_FIELD_COUNT:
                return fieldCount[cls];
            default:
                return NO_SUCH;
        }
    }

    public int getStmt(int body, int index, int part) {
        if (!isBody(body) || index < 0 || index >= stmtCount[body]) {
            return NO_SUCH;
        }
        int at = body * MAX_STMTS + index;
        switch (part) {
            case 0:
                return stmtOp[at];
            case 1:
                return stmtA[at];
            case 2:
                return stmtB[at];
            default:
                return NO_SUCH;
        }
    }
}
