/** Promise 13: getDecl. */
public final class Promise13Test {
    private static final Check CHECK = new Check();
    private static final int MAIN = OwnerDominance.BODY_MAIN;
    // Of eight classes with 0, 1, 2, 0, 1, 2, 0 and 1 formals.
    private static final int[] SELF = {0x10, 0x311, 0x4312, 0x13, 0x314, 0x4315, 0x16, 0x317};

    public static void main(String[] args) {
        noSuchBody();
        itemsOfAClass();
        fieldsThatAreNot();
        itemsOfMain();
        noSuchItem();
        neverSet();
        thisAndParam();
        selfTypes();
        everyStatus();
        changesNothing();
        CHECK.end();
    }

    private static void item(OwnerDominance x, int body, int item, int due) {
        CHECK.due("getDecl(" + body + ", " + item + ")", x.getDecl(body, item), due);
    }

    /** Eight classes and main with a different number in every place. */
    private static OwnerDominance fullProgram() {
        OwnerDominance x = new OwnerDominance(8);
        for (int c = 0; c < 8; c++) {
            x.addClass(c % 3);
            for (int f = 0; f < 4; f++) {
                x.addField(c, 1000 + 10 * c + f);
            }
            x.setSignature(c, 2000 + c, 3000 + c);
            for (int i = 0; i < c; i++) {
                x.addStmt(c, i, i, i);
            }
        }
        for (int body = 0; body <= 8; body++) {
            for (int v = 0; v < 8; v++) {
                x.setLocal(body, v, 4000 + 10 * body + v);
            }
        }
        for (int i = 0; i < 16; i++) {
            x.addStmt(MAIN, i, i, i);
        }
        return x;
    }

    private static void noSuchBody() {
        CHECK.says("A body id is VALID if it is 8 or in 0..classCount-1. .. `getDecl(body, item)` answers -2 if body"
                + " is not VALID.");
        for (int classes = 0; classes <= 8; classes++) {
            OwnerDominance x = Programs.classes(classes);
            for (int body : Ints.notBodies(classes)) {
                for (int item = -1; item <= 17; item++) {
                    item(x, body, item, -2);
                }
            }
            for (int c = 0; c < classes; c++) {
                item(x, c, 6, c % 3);
            }
            item(x, MAIN, 16, 0);
        }
    }

    private static void itemsOfAClass() {
        CHECK.says("For a class body, by item: 0..3: field type (-2 if there is no such field); 4: param; 5: ret;"
                + " 6: formals; 7: fieldCount; 8..15: decl(v0..v7), where decl(v0) = self(c) and decl(v1) = param(c);"
                + " 16: statement count.");
        OwnerDominance x = fullProgram();
        for (int c = 0; c < 8; c++) {
            for (int f = 0; f < 4; f++) {
                item(x, c, f, 1000 + 10 * c + f);
            }
            item(x, c, 4, 2000 + c);
            item(x, c, 5, 3000 + c);
            item(x, c, 6, c % 3);
            item(x, c, 7, 4);
            item(x, c, 8, SELF[c]);
            item(x, c, 9, 2000 + c);
            for (int v = 2; v < 8; v++) {
                item(x, c, 8 + v, 4000 + 10 * c + v);
            }
            item(x, c, 16, c);
        }
    }

    private static void fieldsThatAreNot() {
        CHECK.says("0..3: field type (-2 if there is no such field);");
        for (int c = 0; c < 8; c++) {
            OwnerDominance x = Programs.classes(8);
            for (int count = 0; count <= 4; count++) {
                item(x, c, 7, count);
                for (int f = 0; f < 4; f++) {
                    item(x, c, f, f < count ? 50 + f : -2);
                }
                x.addField(c, 50 + count);
            }
        }
    }

    private static void itemsOfMain() {
        CHECK.says("For main, by item: 8..15: decl(v0..v7); 16: statement count.");
        OwnerDominance x = fullProgram();
        for (int v = 0; v < 8; v++) {
            item(x, MAIN, 8 + v, 4080 + v);
            item(x, MAIN, v, -2);
        }
        item(x, MAIN, 16, 16);
    }

    private static void noSuchItem() {
        CHECK.says("Any other item answers -2.");
        OwnerDominance[] objects = {fullProgram(), Frozen.running(), new OwnerDominance(8)};
        for (OwnerDominance x : objects) {
            for (int item : Ints.notIn(0, 16)) {
                for (int body = 0; body <= MAIN; body++) {
                    item(x, body, item, -2);
                }
            }
            for (int item = 0; item < 8; item++) {
                item(x, MAIN, item, -2);
            }
        }
    }

    private static void neverSet() {
        CHECK.says("Anything never set (locals, param, return) is the type word 0.");
        OwnerDominance x = new OwnerDominance(8);
        for (int c = 0; c < 8; c++) {
            x.addClass(2);
            item(x, c, 4, 0);
            item(x, c, 5, 0);
            for (int v = 1; v < 8; v++) {
                item(x, c, 8 + v, 0);
            }
        }
        for (int v = 0; v < 8; v++) {
            item(x, MAIN, 8 + v, 0);
        }
    }

    private static void thisAndParam() {
        CHECK.says("In a class body c, decl(v0) = self(c) (v0 is `this`) and decl(v1) = param(c).");
        OwnerDominance x = fullProgram();
        for (int c = 0; c < 8; c++) {
            item(x, c, 9, x.getDecl(c, 4));
            x.setSignature(c, 77, 78);
            item(x, c, 9, 77);
            item(x, c, 8, SELF[c]);
        }
    }

    private static void selfTypes() {
        CHECK.says("self(c) = c + 16*A_OWNER + (formals(c)>=1 ? 256*A_P1 : 0) + (formals(c)>=2 ? 4096*A_P2 : 0).");
        for (int formals = 0; formals <= 2; formals++) {
            OwnerDominance x = new OwnerDominance(8);
            for (int c = 0; c < 8; c++) {
                x.addClass(formals);
                item(x, c, 8, c + 16 + (formals >= 1 ? 768 : 0) + (formals >= 2 ? 16384 : 0));
                x.setLocal(c, 0, 99);
                x.setSignature(c, 98, 97);
                item(x, c, 8, c + 16 + (formals >= 1 ? 768 : 0) + (formals >= 2 ? 16384 : 0));
            }
        }
    }

    private static void everyStatus() {
        CHECK.says("Any other item answers -2. It works in every status");
        int[] statements = {2, 1, 2, 2, 5, 2};
        int i = 0;
        for (OwnerDominance x : Frozen.all()) {
            item(x, 0, 0, 0);
            item(x, 0, 1, -2);
            item(x, 0, 6, 0);
            item(x, 0, 7, 1);
            item(x, 0, 8, 16);
            item(x, 1, 8, -2);
            item(x, MAIN, 7, -2);
            item(x, MAIN, 8, 0);
            item(x, MAIN, 16, statements[i]);
            item(x, MAIN, 17, -2);
            i++;
        }
    }

    private static void changesNothing() {
        CHECK.says("Any other item answers -2. It works in every status and changes nothing.");
        OwnerDominance[] objects = {fullProgram(), Frozen.running()};
        for (OwnerDominance x : objects) {
            String before = Snapshot.of(x);
            for (int body : Ints.ANY) {
                for (int item : Ints.ANY) {
                    x.getDecl(body, item);
                }
            }
            for (int body = -1; body <= 9; body++) {
                for (int item = -1; item <= 17; item++) {
                    x.getDecl(body, item);
                }
            }
            CHECK.same("after reading", Snapshot.of(x), before);
        }
    }
}
