/** Promise 7: VALID, in every context and at every item that it tests. */
public final class Promise07TypesTest {
    private static final Check CHECK = new Check();
    private static final int OK = OwnerDominance.E_OK;
    private static final int BADTYPE = OwnerDominance.E_BADTYPE;
    private static final int CONTEXT = OwnerDominance.E_CONTEXT;
    private static final int WELLFORMED = OwnerDominance.E_WELLFORMED;
    private static final int MAIN = OwnerDominance.BODY_MAIN;

    // Row a, column b: is a outside b? The atoms stand in the order world, owner, rep, P1, P2.
    private static final String[] OUTSIDE = {"11111", "01100", "00100", "01110", "01101"};

    public static void main(String[] args) {
        range();
        classIds();
        usedSlots();
        unusedSlots();
        contextOfMain();
        contextOfAClass();
        outsideItself();
        worldOutside();
        outsideRep();
        outsideOwner();
        formalsAreNotOutsideEachOther();
        wellFormed();
        noArguments();
        order();
        CHECK.end();
    }

    /** Class c has c formals, c = 0..2. The type stands at every place that VALID tests in the body. */
    private static void valid(int type, int body, int checked, int unchecked) {
        int[] due = {unchecked, checked};
        for (int mode = 0; mode <= 1; mode++) {
            for (int place = 0; place < 16; place++) {
                OwnerDominance x = new OwnerDominance(8);
                for (int formals = 0; formals <= 2; formals++) {
                    x.addClass(formals);
                }
                if (put(x, body, place, type)) {
                    String what = "type " + Integer.toHexString(type) + " in body " + body + " at item " + place;
                    CHECK.due(what + ": compile(" + mode + ")", x.compile(mode), due[mode]);
                    CHECK.due(what + ": getErrorAt()", x.getErrorAt(), due[mode] == OK ? -1 : body * 32 + place);
                }
            }
        }
        inNew(type, body, OwnerDominance.MODE_CHECKED, checked);
        inNew(type, body, OwnerDominance.MODE_UNCHECKED, unchecked);
    }

    private static boolean put(OwnerDominance x, int body, int place, int type) {
        if (place >= 8) {
            return x.setLocal(body, place - 8, type);
        }
        if (body == MAIN || place > 5) {
            return false;
        }
        if (place == 4) {
            return x.setSignature(body, type, 0);
        }
        if (place == 5) {
            return x.setSignature(body, 0, type);
        }
        for (int f = 0; f < place; f++) {
            x.addField(body, 0);
        }
        return x.addField(body, type) == place;
    }

    /** A good type can only be made where the variable has it; a bad one is told before the variable is looked at. */
    private static void inNew(int type, int body, int mode, int due) {
        OwnerDominance x = new OwnerDominance(8);
        for (int formals = 0; formals <= 2; formals++) {
            x.addClass(formals);
        }
        if (due == OK) {
            x.setLocal(body, 5, type);
        }
        x.addStmt(body, OwnerDominance.OP_NEW, 5, type);
        String what = "new " + Integer.toHexString(type) + " in body " + body;
        CHECK.due(what + ": compile(" + mode + ")", x.compile(mode), due);
        CHECK.due(what + ": getErrorAt()", x.getErrorAt(), due == OK ? -1 : body * 32 + 16);
    }

    private static void both(int type, int body, int due) {
        valid(type, body, due, due);
    }

    private static void range() {
        CHECK.says("E_BADTYPE unless all of these hold: 0 <= t <= 65535");
        int[] bodies = {0, 1, 2, MAIN};
        int[] good = {0, 1, 2};
        // Bits beyond the sixteenth must not be dropped: without them these would be good types.
        int[] beyond = {65536, -65536, 131072, 0x00100000, 0x01000000, 0x10000000, 0x40000000, Integer.MIN_VALUE,
            0xffff0000, 0x7fff0000};
        for (int body : bodies) {
            for (int type : good) {
                both(type, body, OK);
                for (int more : beyond) {
                    both(type + more, body, BADTYPE);
                }
            }
            both(-1, body, BADTYPE);
            both(-2, body, BADTYPE);
            both(65535, body, BADTYPE);
            both(Integer.MAX_VALUE, body, BADTYPE);
        }
        both(0x4442, 2, OK);
        both(0x4442 + 65536, 2, BADTYPE);
        both(0x4442 - 65536, 2, BADTYPE);
    }

    private static void classIds() {
        CHECK.says("E_BADTYPE unless all of these hold: 0 <= t <= 65535, cls < classCount");
        for (int classes = 1; classes <= 8; classes++) {
            for (int cls = 0; cls <= 15; cls++) {
                for (int mode = 0; mode <= 1; mode++) {
                    OwnerDominance x = new OwnerDominance(8);
                    for (int c = 0; c < classes; c++) {
                        x.addClass(0);
                    }
                    x.setLocal(classes - 1, 2, Types.type(cls, Types.REP));
                    String what = "class " + cls + " of " + classes + ": compile(" + mode + ")";
                    CHECK.due(what, x.compile(mode), cls < classes ? OK : BADTYPE);
                    CHECK.due("getErrorAt()", x.getErrorAt(), cls < classes ? -1 : 32 * (classes - 1) + 10);
                }
            }
        }
        for (int cls = 3; cls <= 15; cls++) {
            both(cls, 2, BADTYPE);
            both(cls, MAIN, BADTYPE);
        }
    }

    private static void usedSlots() {
        CHECK.says("The USED slots are o0..o_k with k = formals(cls) .. every used slot <= 4");
        int[] bodies = {0, 1, 2, MAIN};
        for (int body : bodies) {
            for (int slot = 5; slot <= 15; slot++) {
                both(Types.type(0, slot), body, BADTYPE);
                both(Types.type(1, slot, 0), body, BADTYPE);
                both(Types.type(1, 0, slot), body, BADTYPE);
                both(Types.type(2, slot, 0, 0), body, BADTYPE);
                both(Types.type(2, 0, slot, 0), body, BADTYPE);
                both(Types.type(2, 0, 0, slot), body, BADTYPE);
            }
        }
        both(Types.type(0, 4), 2, OK);
        both(Types.type(1, 4, 4), 2, OK);
        both(Types.type(2, 4, 4, 4), 2, OK);
    }

    private static void unusedSlots() {
        CHECK.says("E_BADTYPE unless all of these hold: .. and every unused slot is 0.");
        int[] bodies = {0, 1, 2, MAIN};
        for (int body : bodies) {
            for (int slot = 1; slot <= 15; slot++) {
                both(Types.type(0, 0, slot), body, BADTYPE);
                both(Types.type(0, 0, 0, slot), body, BADTYPE);
                both(Types.type(1, 0, 0, slot), body, BADTYPE);
            }
        }
    }

    private static void contextOfMain() {
        CHECK.says("E_CONTEXT unless each used slot is allowed in K: in main, only A_WORLD is allowed;");
        for (int atom = 0; atom <= 4; atom++) {
            int due = atom == 0 ? OK : CONTEXT;
            both(Types.type(0, atom), MAIN, due);
            both(Types.type(1, atom, 0), MAIN, due);
            both(Types.type(1, 0, atom), MAIN, due);
            both(Types.type(2, atom, 0, 0), MAIN, due);
            both(Types.type(2, 0, atom, 0), MAIN, due);
            both(Types.type(2, 0, 0, atom), MAIN, due);
            both(Types.type(2, atom, atom, atom), MAIN, due);
        }
    }

    private static void contextOfAClass() {
        CHECK.says("in class K, A_WORLD, A_OWNER and A_REP are always allowed, A_P1 is allowed iff formals(K) >= 1,"
                + " and A_P2 is allowed iff formals(K) >= 2.");
        int[] greatest = {Types.REP, Types.P1, Types.P2};
        for (int body = 0; body <= 2; body++) {
            for (int atom = 0; atom <= 4; atom++) {
                int due = atom <= greatest[body] ? OK : CONTEXT;
                both(Types.type(0, atom), body, due);
                both(Types.type(1, atom, atom), body, due);
                both(Types.type(2, atom, atom, atom), body, due);
                both(Types.type(2, atom, 0, 0), body, due);
                if (due == CONTEXT) {
                    both(Types.type(1, 0, atom), body, due);
                    both(Types.type(2, 0, atom, 0), body, due);
                    both(Types.type(2, 0, 0, atom), body, due);
                }
            }
        }
    }

    private static void outsideItself() {
        CHECK.says("**outside(a,b)** holds iff any of these is true: a == b;");
        for (int atom = 0; atom <= 4; atom++) {
            arguments(atom, atom, OK);
        }
    }

    private static void worldOutside() {
        CHECK.says("**outside(a,b)** holds iff any of these is true: .. a == A_WORLD;");
        for (int atom = 0; atom <= 4; atom++) {
            arguments(Types.WORLD, atom, OK);
            arguments(atom, Types.WORLD, atom == Types.WORLD ? OK : WELLFORMED);
        }
    }

    private static void outsideRep() {
        CHECK.says("b == A_REP and a is A_OWNER, A_P1 or A_P2;");
        int[] others = {Types.OWNER, Types.P1, Types.P2};
        for (int atom : others) {
            arguments(atom, Types.REP, OK);
            arguments(Types.REP, atom, WELLFORMED);
        }
    }

    private static void outsideOwner() {
        CHECK.says("b == A_OWNER and a is A_P1 or A_P2.");
        int[] formals = {Types.P1, Types.P2};
        for (int atom : formals) {
            arguments(atom, Types.OWNER, OK);
            arguments(Types.OWNER, atom, WELLFORMED);
        }
        arguments(Types.REP, Types.OWNER, WELLFORMED);
    }

    private static void formalsAreNotOutsideEachOther() {
        CHECK.says("**outside(a,b)** holds iff any of these is true:");
        arguments(Types.P1, Types.P2, WELLFORMED);
        arguments(Types.P2, Types.P1, WELLFORMED);
    }

    /** The argument a with the owner b, in class 2, which knows every atom. */
    private static void arguments(int a, int b, int due) {
        valid(Types.type(1, b, a), 2, due, OK);
        valid(Types.type(2, b, a, Types.WORLD), 2, due, OK);
        valid(Types.type(2, b, Types.WORLD, a), 2, due, OK);
    }

    /** Both arguments are tested: one that is fine doesn't help the other. */
    private static void wellFormed() {
        CHECK.says("In checked mode only: E_WELLFORMED unless outside(oi, o0) holds for i = 1..k.");
        for (int a = 0; a <= 4; a++) {
            for (int b = 0; b <= 4; b++) {
                int due = OUTSIDE[a].charAt(b) == '1' ? OK : WELLFORMED;
                valid(Types.type(2, b, b, a), 2, due, OK);
                valid(Types.type(2, b, a, b), 2, due, OK);
            }
        }
        valid(Types.type(1, Types.WORLD, Types.REP), 0, WELLFORMED, OK);
        valid(Types.type(1, Types.REP, Types.OWNER), 0, OK, OK);
        valid(Types.type(1, Types.P1, Types.OWNER), 1, WELLFORMED, OK);
    }

    /** Without formals there is no i, and so nothing that could lie inside the owner. */
    private static void noArguments() {
        CHECK.says("E_WELLFORMED unless outside(oi, o0) holds for i = 1..k.");
        for (int owner = 0; owner <= 4; owner++) {
            both(Types.type(0, owner), 2, OK);
        }
    }

    private static void order() {
        CHECK.says("applies these tests in this order. The first failing test gives the result.");
        both(Types.type(0, Types.REP, 1), MAIN, BADTYPE);
        both(Types.type(2, Types.P1, Types.P2, 5), 0, BADTYPE);
        both(Types.type(2, 5, Types.P1, Types.P2), 0, BADTYPE);
        both(Types.type(1, Types.P2, Types.REP, 1), 0, BADTYPE);
        both(Types.type(2, Types.WORLD, Types.REP, Types.P2), 1, CONTEXT);
        both(Types.type(2, Types.P1, Types.REP, Types.REP), 0, CONTEXT);
        both(Types.type(1, Types.WORLD, Types.REP), MAIN, CONTEXT);
        both(Types.type(1, Types.REP, Types.OWNER), MAIN, CONTEXT);
        valid(Types.type(2, Types.WORLD, Types.REP, Types.OWNER), 0, WELLFORMED, OK);
    }
}
