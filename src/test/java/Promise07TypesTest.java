/** Promise 7: VALID, in every context and at every item that it tests. */
public final class Promise07TypesTest {
    private static final Check CHECK = new Check();
    private static final int OK = OwnerDominance.E_OK;
    private static final int BADTYPE = OwnerDominance.E_BADTYPE;
    private static final int CONTEXT = OwnerDominance.E_CONTEXT;
    private static final int WELLFORMED = OwnerDominance.E_WELLFORMED;
    private static final int MAIN = OwnerDominance.BODY_MAIN;

    // Row a, column b: is a outside b? The atoms stand in the order world, owner, rep, P1, P2.
    private static final String[] OUTSIDE = {"11111", "01100", "00100", "01110", "01101"};

    public static void main(String[] args) {
        encoding();
        contexts();
        outside();
        order();
        CHECK.end();
    }

    /** Class c has c formals, c = 0..2. The type stands at every place that VALID tests in the body. */
    private static void valid(int type, int body, int checked, int unchecked) {
        int[] due = {unchecked, checked};
        for (int mode = 0; mode <= 1; mode++) {
            for (int place = 0; place < 16; place++) {
                OwnerDominance x = new OwnerDominance(8);
                for (int formals = 0; formals <= 2; formals++) {
                    x.addClass(formals);
                }
                if (put(x, body, place, type)) {
                    String what = "type " + Integer.toHexString(type) + " in body " + body + " at item " + place;
                    CHECK.due(what + ": compile(" + mode + ")", x.compile(mode), due[mode]);
                    CHECK.due(what + ": getErrorAt()", x.getErrorAt(), due[mode] == OK ? -1 : body * 32 + place);
                }
            }
        }
        inNew(type, body, OwnerDominance.MODE_CHECKED, checked);
        inNew(type, body, OwnerDominance.MODE_UNCHECKED, unchecked);
    }

    private static boolean put(OwnerDominance x, int body, int place, int type) {
        if (place >= 8) {
            return x.setLocal(body, place - 8, type);
        }
        if (body == MAIN || place > 5) {
            return false;
        }
        if (place == 4) {
            return x.setSignature(body, type, 0);
        }
        if (place == 5) {
            return x.setSignature(body, 0, type);
        }
        for (int f = 0; f < place; f++) {
            x.addField(body, 0);
        }
        return x.addField(body, type) == place;
    }

    /** A good type can only be made where the variable has it; a bad one is told before the variable is looked at. */
    private static void inNew(int type, int body, int mode, int due) {
        OwnerDominance x = new OwnerDominance(8);
        for (int formals = 0; formals <= 2; formals++) {
            x.addClass(formals);
        }
        if (due == OK) {
            x.setLocal(body, 5, type);
        }
        x.addStmt(body, OwnerDominance.OP_NEW, 5, type);
        String what = "new " + Integer.toHexString(type) + " in body " + body;
        CHECK.due(what + ": compile(" + mode + ")", x.compile(mode), due);
        CHECK.due(what + ": getErrorAt()", x.getErrorAt(), due == OK ? -1 : body * 32 + 16);
    }

    private static void both(int type, int body, int due) {
        valid(type, body, due, due);
    }

    private static void encoding() {
        int[] bodies = {0, 1, 2, MAIN};
        int[] bad = {-1, -2, Integer.MIN_VALUE, Integer.MAX_VALUE, 65535, 65536, 65537, 131072, 0x10000000,
            3, 4, 7, 8, 15, 0x13, 0x1f, -65536, -65535, 0xffff0000};
        for (int body : bodies) {
            for (int type : bad) {
                both(type, body, BADTYPE);
            }
            for (int slot = 5; slot <= 15; slot++) {
                both(Types.type(0, slot), body, BADTYPE);
                both(Types.type(1, 0, slot), body, BADTYPE);
                both(Types.type(2, 0, 0, slot), body, BADTYPE);
            }
            for (int slot = 1; slot <= 15; slot++) {
                both(Types.type(0, 0, slot), body, BADTYPE);
                both(Types.type(0, 0, 0, slot), body, BADTYPE);
                both(Types.type(1, 0, 0, slot), body, BADTYPE);
            }
        }
        both(0x4442, 2, OK);
        both(0x441, 2, OK);
        both(0x40, 2, OK);
    }

    private static void contexts() {
        for (int atom = 0; atom <= 4; atom++) {
            int[] greatest = {Types.REP, Types.P1, Types.P2};
            for (int body = 0; body <= 2; body++) {
                int due = atom <= greatest[body] ? OK : CONTEXT;
                both(Types.type(0, atom), body, due);
                both(Types.type(1, atom, atom), body, due);
                both(Types.type(2, atom, atom, atom), body, due);
                both(Types.type(2, atom, 0, 0), body, due);
            }
            int due = atom == 0 ? OK : CONTEXT;
            both(Types.type(0, atom), MAIN, due);
            both(Types.type(1, 0, atom), MAIN, due);
            both(Types.type(2, 0, atom, 0), MAIN, due);
            both(Types.type(2, 0, 0, atom), MAIN, due);
        }
        for (int argument = 3; argument <= 4; argument++) {
            both(Types.type(1, 0, argument), 0, CONTEXT);
            both(Types.type(2, 0, 0, argument), 0, CONTEXT);
        }
        both(Types.type(1, 0, Types.P2), 1, CONTEXT);
        both(Types.type(2, 0, Types.P2, 0), 1, CONTEXT);
        both(Types.type(2, 0, 0, Types.P2), 1, CONTEXT);
    }

    private static void outside() {
        for (int a = 0; a <= 4; a++) {
            for (int b = 0; b <= 4; b++) {
                int due = OUTSIDE[a].charAt(b) == '1' ? OK : WELLFORMED;
                valid(Types.type(1, b, a), 2, due, OK);
                valid(Types.type(2, b, a, 0), 2, due, OK);
                valid(Types.type(2, b, 0, a), 2, due, OK);
                valid(Types.type(2, b, b, a), 2, due, OK);
                valid(Types.type(2, b, a, b), 2, due, OK);
            }
        }
        valid(Types.type(1, Types.WORLD, Types.REP), 0, WELLFORMED, OK);
        valid(Types.type(1, Types.REP, Types.OWNER), 0, OK, OK);
        valid(Types.type(1, Types.P1, Types.OWNER), 1, WELLFORMED, OK);
    }

    private static void order() {
        both(Types.type(0, Types.REP, 1), MAIN, BADTYPE);
        both(Types.type(2, Types.P1, Types.P2, 5), 0, BADTYPE);
        both(Types.type(2, 5, Types.P1, Types.P2), 0, BADTYPE);
        both(Types.type(2, Types.WORLD, Types.REP, Types.P2), 1, CONTEXT);
        both(Types.type(2, Types.P1, Types.REP, Types.REP), 0, CONTEXT);
        valid(Types.type(2, Types.WORLD, Types.REP, Types.OWNER), 0, WELLFORMED, OK);
    }
}
