/** Promise 7: the statement test S5, with MATCH and SUBST. */
public final class Promise07TypingTest {
    private static final Check CHECK = new Check();
    private static final int OK = OwnerDominance.E_OK;
    private static final int CONTEXT = OwnerDominance.E_CONTEXT;
    private static final int WELLFORMED = OwnerDominance.E_WELLFORMED;
    private static final int BADOPERAND = OwnerDominance.E_BADOPERAND;
    private static final int MISMATCH = OwnerDominance.E_MISMATCH;
    private static final int ESCAPES = OwnerDominance.E_REP;
    private static final int NEW = OwnerDominance.OP_NEW;
    private static final int MOVE = OwnerDominance.OP_MOVE;
    private static final int LOAD = OwnerDominance.OP_LOAD;
    private static final int STORE = OwnerDominance.OP_STORE;
    private static final int CALL = OwnerDominance.OP_CALL;
    private static final int NULL = OwnerDominance.OP_NULL;
    private static final int RETURN = OwnerDominance.OP_RETURN;
    private static final int MAIN = OwnerDominance.BODY_MAIN;

    private static final int WORLD = Types.WORLD;
    private static final int OWNER = Types.OWNER;
    private static final int REP = Types.REP;
    private static final int P1 = Types.P1;
    private static final int P2 = Types.P2;

    // The locals of the body under test, which the cases below set before they tell a statement.
    private static int body;
    private static final int[] LOCALS = new int[8];

    public static void main(String[] args) {
        news();
        moves();
        loadsThroughThis();
        loadsThroughOthers();
        loadsInMain();
        stores();
        calls();
        returns();
        nulls();
        matches();
        thisIsTheSecondArgument();
        unusedSlotsStay();
        errorOfSubstitution();
        uncheckedMode();
        fieldsToLoad();
        fieldsToStore();
        CHECK.end();
    }

    private static int a(int owner) {
        return Types.type(0, owner);
    }

    private static int b(int owner, int first) {
        return Types.type(1, owner, first);
    }

    private static int c(int owner, int first, int second) {
        return Types.type(2, owner, first, second);
    }

    private static int d(int owner) {
        return Types.type(3, owner);
    }

    /** Classes A, B, C with no, one and two formals and four fields each, and D without fields. */
    private static OwnerDominance classes() {
        OwnerDominance x = new OwnerDominance(8);
        int[] formals = {0, 1, 2, 0};
        for (int count : formals) {
            x.addClass(count);
        }
        int[] fieldsOfA = {a(REP), a(OWNER), a(WORLD), b(OWNER, WORLD)};
        int[] fieldsOfB = {a(P1), b(OWNER, P1), a(REP), b(REP, OWNER)};
        int[] fieldsOfC = {a(P2), c(OWNER, P1, P2), c(OWNER, P2, P1), c(REP, P2, OWNER)};
        for (int f = 0; f < 4; f++) {
            x.addField(0, fieldsOfA[f]);
            x.addField(1, fieldsOfB[f]);
            x.addField(2, fieldsOfC[f]);
        }
        x.setSignature(0, a(OWNER), a(REP));
        x.setSignature(1, a(P1), b(OWNER, P1));
        x.setSignature(2, c(OWNER, P2, P1), a(P1));
        x.setSignature(3, a(REP), a(OWNER));
        return x;
    }

    private static void in(int newBody) {
        body = newBody;
        for (int v = 0; v < 8; v++) {
            LOCALS[v] = 0;
        }
    }

    private static void let(int v, int type) {
        LOCALS[v] = type;
    }

    private static void stmt(int op, int a, int b, int checked, int unchecked) {
        int[] due = {unchecked, checked};
        for (int mode = 0; mode <= 1; mode++) {
            OwnerDominance x = classes();
            for (int v = body == MAIN ? 0 : 2; v < 8; v++) {
                x.setLocal(body, v, LOCALS[v]);
            }
            x.addStmt(body, op, a, b);
            String what = "body " + body + ", (" + op + ", " + a + ", " + b + ")";
            CHECK.due(what + ": compile(" + mode + ")", x.compile(mode), due[mode]);
            CHECK.due(what + ": getErrorAt()", x.getErrorAt(), due[mode] == OK ? -1 : body * 32 + 16);
        }
    }

    /** v3 = v.field f, where v3 has the given type. */
    private static void load(int v, int f, int type, int checked, int unchecked) {
        let(3, type);
        stmt(LOAD, 3, 8 * f + v, checked, unchecked);
    }

    private static void news() {
        CHECK.says("NEW: VALID(b, K), then MATCH(b, decl(a)).");
        in(2);
        let(2, b(REP, P2));
        stmt(NEW, 2, b(REP, P2), OK, OK);
        stmt(NEW, 2, b(REP, P1), MISMATCH, OK);
        stmt(NEW, 2, b(OWNER, P2), MISMATCH, OK);
        stmt(NEW, 2, a(REP), MISMATCH, MISMATCH);
        stmt(NEW, 2, b(P1, OWNER), WELLFORMED, OK);
        let(2, a(P2));
        stmt(NEW, 2, b(P1, OWNER), WELLFORMED, MISMATCH);
        stmt(NEW, 2, a(P2), OK, OK);
        in(0);
        stmt(NEW, 2, a(P1), CONTEXT, CONTEXT);
        stmt(NEW, 2, b(WORLD, P1), CONTEXT, CONTEXT);
        in(MAIN);
        stmt(NEW, 0, a(WORLD), OK, OK);
        stmt(NEW, 0, a(OWNER), CONTEXT, CONTEXT);
        stmt(NEW, 0, b(WORLD, WORLD), MISMATCH, MISMATCH);
    }

    private static void moves() {
        CHECK.says("MOVE: MATCH(decl(b), decl(a)).");
        in(2);
        let(2, b(REP, P2));
        let(3, b(REP, P2));
        stmt(MOVE, 2, 3, OK, OK);
        let(3, b(REP, P1));
        stmt(MOVE, 2, 3, MISMATCH, OK);
        let(3, b(P2, P2));
        stmt(MOVE, 2, 3, MISMATCH, OK);
        let(3, a(REP));
        stmt(MOVE, 2, 3, MISMATCH, MISMATCH);
        let(2, c(OWNER, P1, P2));
        stmt(MOVE, 2, 0, OK, OK);
        stmt(MOVE, 2, 1, MISMATCH, OK);
        let(2, c(OWNER, P2, P1));
        stmt(MOVE, 2, 0, MISMATCH, OK);
        stmt(MOVE, 2, 1, OK, OK);
        in(MAIN);
        let(0, d(WORLD));
        let(7, d(WORLD));
        stmt(MOVE, 0, 7, OK, OK);
        stmt(MOVE, 7, 0, OK, OK);
        stmt(MOVE, 7, 1, MISMATCH, MISMATCH);
    }

    private static void loadsThroughThis() {
        CHECK.says("A_REP -> A_REP if K is a class and y == 0.");
        in(0);
        load(0, 0, a(REP), OK, OK);
        load(0, 0, a(OWNER), MISMATCH, OK);
        load(0, 0, a(WORLD), MISMATCH, OK);
        load(0, 0, d(REP), MISMATCH, MISMATCH);
        load(0, 1, a(OWNER), OK, OK);
        load(0, 2, a(WORLD), OK, OK);
        load(0, 3, b(OWNER, WORLD), OK, OK);
        load(0, 4, a(WORLD), BADOPERAND, BADOPERAND);
        load(0, 7, a(WORLD), BADOPERAND, BADOPERAND);
        in(2);
        load(0, 0, a(P2), OK, OK);
        load(0, 1, c(OWNER, P1, P2), OK, OK);
        load(0, 2, c(OWNER, P2, P1), OK, OK);
        load(0, 3, c(REP, P2, OWNER), OK, OK);
        in(3);
        load(0, 0, a(WORLD), BADOPERAND, BADOPERAND);
    }

    private static void loadsThroughOthers() {
        CHECK.says("A_OWNER -> r0; A_P1 -> r1; A_P2 -> r2;");
        in(2);
        let(2, b(REP, P2));
        load(2, 0, a(P2), OK, OK);
        load(2, 0, a(P1), MISMATCH, OK);
        load(2, 0, b(P2, P2), MISMATCH, MISMATCH);
        load(2, 1, b(REP, P2), OK, OK);
        load(2, 1, b(OWNER, P1), MISMATCH, OK);
        load(2, 2, a(REP), ESCAPES, OK);
        load(2, 2, a(WORLD), ESCAPES, OK);
        load(2, 2, b(REP, REP), ESCAPES, MISMATCH);
        load(2, 3, b(REP, REP), ESCAPES, OK);
        let(2, c(REP, OWNER, WORLD));
        load(2, 0, a(WORLD), OK, OK);
        load(2, 1, c(REP, OWNER, WORLD), OK, OK);
        load(2, 2, c(REP, WORLD, OWNER), OK, OK);
        load(2, 2, c(REP, OWNER, WORLD), MISMATCH, OK);
        load(2, 3, c(REP, WORLD, REP), ESCAPES, OK);
        load(1, 0, a(P1), OK, OK);
        load(1, 1, c(OWNER, P2, P1), OK, OK);
        load(1, 2, c(OWNER, P1, P2), OK, OK);
        load(1, 3, c(REP, P1, OWNER), ESCAPES, OK);
        let(2, d(REP));
        load(2, 0, a(WORLD), BADOPERAND, BADOPERAND);
        in(0);
        let(2, a(REP));
        load(2, 0, a(REP), ESCAPES, OK);
        load(2, 1, a(REP), OK, OK);
        load(2, 1, a(OWNER), MISMATCH, OK);
        load(2, 3, b(REP, WORLD), OK, OK);
        load(1, 0, a(REP), ESCAPES, OK);
        load(1, 1, a(OWNER), OK, OK);
    }

    private static void loadsInMain() {
        CHECK.says("A_REP -> A_REP if K is a class and y == 0. Otherwise it gives E_REP in checked mode");
        in(MAIN);
        load(0, 0, a(WORLD), ESCAPES, OK);
        load(0, 1, a(WORLD), OK, OK);
        load(0, 3, b(WORLD, WORLD), OK, OK);
        load(0, 3, a(WORLD), MISMATCH, MISMATCH);
        let(0, b(WORLD, WORLD));
        load(0, 0, a(WORLD), OK, OK);
        load(0, 1, b(WORLD, WORLD), OK, OK);
        load(0, 2, a(WORLD), ESCAPES, OK);
        load(0, 3, b(WORLD, WORLD), ESCAPES, OK);
        let(0, d(WORLD));
        load(0, 0, a(WORLD), BADOPERAND, BADOPERAND);
        let(5, c(WORLD, WORLD, WORLD));
        load(5, 2, c(WORLD, WORLD, WORLD), OK, OK);
        stmt(LOAD, 0, 8 + 6, MISMATCH, MISMATCH);
        let(0, a(WORLD));
        stmt(LOAD, 0, 8 + 6, OK, OK);
    }

    private static void stores() {
        CHECK.says("STORE: .. Then MATCH(SUBST(fieldType(D,q), a), decl(y)).");
        in(2);
        let(2, b(REP, P2));
        let(3, a(P2));
        stmt(STORE, 2, 3, OK, OK);
        stmt(STORE, 2, 8 + 2, OK, OK);
        stmt(STORE, 2, 8 + 3, MISMATCH, MISMATCH);
        stmt(STORE, 2, 16 + 3, ESCAPES, OK);
        stmt(STORE, 2, 24 + 3, ESCAPES, MISMATCH);
        let(3, a(P1));
        stmt(STORE, 2, 3, MISMATCH, OK);
        let(3, c(REP, P2, OWNER));
        stmt(STORE, 0, 24 + 3, OK, OK);
        stmt(STORE, 0, 8 + 0, OK, OK);
        stmt(STORE, 0, 8 + 1, MISMATCH, OK);
        stmt(STORE, 0, 16 + 1, OK, OK);
        stmt(STORE, 1, 16 + 0, OK, OK);
        in(0);
        let(2, a(REP));
        stmt(STORE, 0, 2, OK, OK);
        stmt(STORE, 2, 0, ESCAPES, OK);
        stmt(STORE, 2, 8 + 2, OK, OK);
        stmt(STORE, 0, 24 + 2, MISMATCH, MISMATCH);
        stmt(STORE, 0, 32 + 2, BADOPERAND, BADOPERAND);
        let(3, d(REP));
        stmt(STORE, 3, 2, BADOPERAND, BADOPERAND);
        stmt(STORE, 2, 8 + 3, MISMATCH, MISMATCH);
        in(MAIN);
        stmt(STORE, 0, 1, ESCAPES, OK);
        stmt(STORE, 0, 8 + 1, OK, OK);
        stmt(STORE, 0, 16 + 1, OK, OK);
    }

    /** v4 = v.m(v3), where v3 and v4 have the given types. */
    private static void call(int v, int argument, int result, int checked, int unchecked) {
        let(3, argument);
        let(4, result);
        stmt(CALL, 4, 8 * 3 + v, checked, unchecked);
    }

    private static void calls() {
        CHECK.says("CALL: let D = cls of decl(y). First MATCH(SUBST(param(D), y), decl(q)),"
                + " then MATCH(SUBST(ret(D), y), decl(a)).");
        in(2);
        let(2, b(REP, P2));
        call(2, a(P2), b(REP, P2), OK, OK);
        call(2, a(P1), b(REP, P2), MISMATCH, OK);
        call(2, a(P2), b(REP, P1), MISMATCH, OK);
        call(2, b(P2, P2), b(REP, P2), MISMATCH, MISMATCH);
        call(2, a(P2), a(P2), MISMATCH, MISMATCH);
        let(2, c(REP, OWNER, WORLD));
        call(2, c(REP, WORLD, OWNER), a(OWNER), OK, OK);
        call(2, c(REP, OWNER, WORLD), a(OWNER), MISMATCH, OK);
        call(2, c(REP, WORLD, OWNER), a(WORLD), MISMATCH, OK);
        call(0, c(OWNER, P2, P1), a(P1), OK, OK);
        call(1, c(OWNER, P1, P2), a(P2), OK, OK);
        let(4, a(P2));
        stmt(CALL, 4, 8 * 0 + 1, OK, OK);
        let(4, a(P1));
        stmt(CALL, 4, 8 * 1 + 0, OK, OK);
        in(0);
        let(2, a(REP));
        call(0, a(OWNER), a(REP), OK, OK);
        call(0, a(REP), a(REP), MISMATCH, OK);
        call(2, a(REP), a(REP), ESCAPES, OK);
        call(2, a(REP), d(REP), ESCAPES, MISMATCH);
        call(2, a(OWNER), a(REP), MISMATCH, OK);
        call(2, d(REP), a(REP), MISMATCH, MISMATCH);
        stmt(CALL, 4, 8 * 0 + 0, OK, OK);
        let(2, d(REP));
        call(2, a(REP), a(REP), ESCAPES, OK);
        call(2, d(REP), a(REP), ESCAPES, MISMATCH);
        in(3);
        call(0, a(REP), a(OWNER), OK, OK);
        in(MAIN);
        call(0, a(WORLD), a(WORLD), ESCAPES, OK);
        call(0, d(WORLD), a(WORLD), MISMATCH, MISMATCH);
        let(0, d(WORLD));
        call(0, a(WORLD), a(WORLD), ESCAPES, OK);
        let(0, b(WORLD, WORLD));
        call(0, a(WORLD), b(WORLD, WORLD), OK, OK);
        call(0, a(WORLD), a(WORLD), MISMATCH, MISMATCH);
    }

    private static void returns() {
        CHECK.says("RETURN: MATCH(decl(a), ret(K)).");
        in(0);
        let(2, a(REP));
        stmt(RETURN, 2, 0, OK, OK);
        let(2, a(OWNER));
        stmt(RETURN, 2, 0, MISMATCH, OK);
        let(2, d(REP));
        stmt(RETURN, 2, 0, MISMATCH, MISMATCH);
        stmt(RETURN, 0, 0, MISMATCH, OK);
        in(1);
        stmt(RETURN, 0, 0, OK, OK);
        stmt(RETURN, 1, 0, MISMATCH, MISMATCH);
        in(2);
        let(7, a(P1));
        stmt(RETURN, 7, 0, OK, OK);
    }

    private static void nulls() {
        CHECK.says("NULL: nothing.");
        int[] types = {a(REP), b(OWNER, P2), c(P1, P1, WORLD), d(WORLD)};
        in(2);
        for (int type : types) {
            let(2, type);
            stmt(NULL, 2, 0, OK, OK);
        }
    }

    /** Every slot counts in checked mode, and no slot in unchecked mode. */
    private static void matches() {
        CHECK.says("In checked mode it succeeds iff s == t. In unchecked mode it succeeds iff (s&15) == (t&15)."
                + " Otherwise the result is E_MISMATCH.");
        in(2);
        int type = c(REP, OWNER, OWNER);
        let(2, type);
        int[] sameClass = {c(OWNER, OWNER, OWNER), c(REP, P1, OWNER), c(REP, OWNER, P2), c(REP, WORLD, WORLD)};
        for (int other : sameClass) {
            let(3, other);
            stmt(MOVE, 2, 3, MISMATCH, OK);
            stmt(MOVE, 3, 2, MISMATCH, OK);
            stmt(NEW, 2, other, MISMATCH, OK);
        }
        int[] otherClass = {a(REP), b(REP, OWNER), d(REP)};
        for (int other : otherClass) {
            let(3, other);
            stmt(MOVE, 2, 3, MISMATCH, MISMATCH);
            stmt(MOVE, 3, 2, MISMATCH, MISMATCH);
            stmt(NEW, 2, other, MISMATCH, MISMATCH);
        }
        let(3, type);
        stmt(MOVE, 2, 3, OK, OK);
        stmt(NEW, 2, type, OK, OK);
    }

    /** Field 0 of A is owned by its object: it can be stored into through this, whatever the value's variable. */
    private static void thisIsTheSecondArgument() {
        CHECK.says("Here y is the second argument of SUBST, not b % 8; for STORE it is a.");
        in(0);
        for (int v = 1; v < 8; v++) {
            if (v > 1) {
                let(v, a(REP));
                stmt(STORE, 0, v, OK, OK);
                stmt(LOAD, v, 0, OK, OK);
            }
            stmt(STORE, v, 0, ESCAPES, OK);
            stmt(LOAD, 7, v, ESCAPES, OK);
        }
        stmt(STORE, 0, 0, MISMATCH, OK);
        in(MAIN);
        for (int v = 0; v < 8; v++) {
            stmt(STORE, 0, v, ESCAPES, OK);
            stmt(STORE, v, 0, ESCAPES, OK);
            stmt(LOAD, v, 0, ESCAPES, OK);
            stmt(LOAD, 0, v, ESCAPES, OK);
        }
    }

    /** What the receiver has in r1 and r2 doesn't show in a type that has no such slot. */
    private static void unusedSlotsStay() {
        CHECK.says("Unused slots stay 0.");
        in(2);
        let(2, c(OWNER, P1, P2));
        load(2, 0, a(P2), OK, OK);
        let(2, c(P2, P2, P2));
        load(2, 0, a(P2), OK, OK);
        let(2, b(P2, P2));
        load(2, 0, a(P2), OK, OK);
        load(2, 1, b(P2, P2), OK, OK);
    }

    private static void errorOfSubstitution() {
        CHECK.says("When a SUBST gives E_REP, that is the error.");
        in(2);
        let(2, b(REP, P2));
        let(3, d(REP));
        stmt(LOAD, 3, 8 * 2 + 2, ESCAPES, MISMATCH);
        stmt(LOAD, 3, 8 * 3 + 2, ESCAPES, MISMATCH);
        stmt(STORE, 2, 8 * 2 + 3, ESCAPES, MISMATCH);
        stmt(STORE, 2, 8 * 3 + 3, ESCAPES, MISMATCH);
        let(4, d(OWNER));
        stmt(CALL, 3, 8 * 2 + 4, ESCAPES, MISMATCH);
    }

    private static void uncheckedMode() {
        CHECK.says("In unchecked mode MATCH compares only class ids, and E_WELLFORMED and E_REP never arise;"
                + " all other tests still apply.");
        in(2);
        let(2, b(P1, OWNER));
        stmtWithLocalError(WELLFORMED, 2 * 32 + 10);
        let(2, b(REP, P2));
        let(3, a(WORLD));
        stmt(LOAD, 3, 8 * 2 + 2, ESCAPES, OK);
        stmt(LOAD, 3, 8 * 4 + 2, BADOPERAND, BADOPERAND);
        stmt(LOAD, 0, 8 * 2 + 2, BADOPERAND, BADOPERAND);
        stmt(LOAD, 8, 8 * 2 + 2, BADOPERAND, BADOPERAND);
        stmt(NEW, 3, 4, OwnerDominance.E_BADTYPE, OwnerDominance.E_BADTYPE);
        stmt(NEW, 3, b(WORLD, WORLD), MISMATCH, MISMATCH);
        in(0);
        stmt(NEW, 2, a(P1), CONTEXT, CONTEXT);
    }

    /** A program whose local is told in checked mode, and nothing in unchecked mode. */
    private static void stmtWithLocalError(int checked, int at) {
        int[] due = {OK, checked};
        for (int mode = 0; mode <= 1; mode++) {
            OwnerDominance x = classes();
            x.setLocal(body, 2, LOCALS[2]);
            CHECK.due("compile(" + mode + ")", x.compile(mode), due[mode]);
            CHECK.due("getErrorAt()", x.getErrorAt(), due[mode] == OK ? -1 : at);
        }
    }

    private static void fieldsToLoad() {
        CHECK.says("LOAD: let D = cls of decl(y). If q >= fieldCount(D), E_BADOPERAND.");
        for (int count = 0; count <= 4; count++) {
            for (int q = 0; q <= 7; q++) {
                int due = q < count ? OK : BADOPERAND;
                fieldOf(MAIN, LOAD, 7, 8 * q + count, due);
                fieldOf(5, LOAD, 7, 8 * q + 2 + count, due);
            }
        }
        // The missing field is told before the type, which would not match either.
        fieldOf(MAIN, LOAD, 1, 8 * 2 + 2, BADOPERAND);
        fieldOf(MAIN, LOAD, 1, 8 * 1 + 2, MISMATCH);
    }

    private static void fieldsToStore() {
        CHECK.says("STORE: let D = cls of decl(a). If q >= fieldCount(D), E_BADOPERAND.");
        for (int count = 0; count <= 4; count++) {
            for (int q = 0; q <= 7; q++) {
                int due = q < count ? OK : BADOPERAND;
                fieldOf(MAIN, STORE, count, 8 * q + 7, due);
                fieldOf(5, STORE, 2 + count, 8 * q + 7, due);
            }
        }
        fieldOf(MAIN, STORE, 2, 8 * 2 + 1, BADOPERAND);
        fieldOf(MAIN, STORE, 2, 8 * 1 + 1, MISMATCH);
    }

    /** Class c has c fields, c = 0..4, and is the class of main's vc and of class 5's v(2+c). v7 can hold a field. */
    private static void fieldOf(int where, int op, int a, int b, int due) {
        for (int mode = 0; mode <= 1; mode++) {
            OwnerDominance x = new OwnerDominance(8);
            for (int c = 0; c < 6; c++) {
                x.addClass(0);
                for (int f = 0; f < c && f < 4; f++) {
                    x.addField(c, 5);
                }
            }
            for (int c = 0; c < 5; c++) {
                x.setLocal(MAIN, c, c);
                x.setLocal(5, 2 + c, c);
            }
            x.setLocal(MAIN, 7, 5);
            x.setLocal(5, 7, 5);
            x.addStmt(where, op, a, b);
            String what = "body " + where + ", (" + op + ", " + a + ", " + b + ")";
            CHECK.due(what + ": compile(" + mode + ")", x.compile(mode), due);
            CHECK.due(what + ": getErrorAt()", x.getErrorAt(), due == OK ? -1 : where * 32 + 16);
        }
    }
}
