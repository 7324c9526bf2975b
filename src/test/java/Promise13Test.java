import java.util.ArrayList;
import java.util.List;

/** Promise 13: getDecl. */
public final class Promise13Test {
    private static final Check CHECK = new Check();
    private static final int[] FAR = {-1, -2, 17, 18, 31, 32, 1000, Integer.MIN_VALUE, Integer.MAX_VALUE};

    public static void main(String[] args) {
        everyItem();
        wrongBody();
        fieldsThatAreNot();
        everyStatus();
        CHECK.end();
    }

    private static void everyItem() {
        OwnerDominance x = new OwnerDominance(8);
        for (int c = 0; c < 8; c++) {
            x.addClass(c % 3);
            for (int f = 0; f < 4; f++) {
                x.addField(c, 1000 + 10 * c + f);
            }
            x.setSignature(c, 2000 + c, 3000 + c);
            for (int i = 0; i < c; i++) {
                x.addStmt(c, i, i, i);
            }
        }
        for (int body = 0; body <= 8; body++) {
            for (int v = 0; v < 8; v++) {
                x.setLocal(body, v, 4000 + 10 * body + v);
            }
        }
        for (int i = 0; i < 9; i++) {
            x.addStmt(8, i, i, i);
        }
        String before = Snapshot.of(x);
        int[] self = {0x10, 0x311, 0x4312, 0x13, 0x314, 0x4315, 0x16, 0x317};
        for (int c = 0; c < 8; c++) {
            for (int f = 0; f < 4; f++) {
                item(x, c, f, 1000 + 10 * c + f);
            }
            item(x, c, 4, 2000 + c);
            item(x, c, 5, 3000 + c);
            item(x, c, 6, c % 3);
            item(x, c, 7, 4);
            item(x, c, 8, self[c]);
            item(x, c, 9, 2000 + c);
            for (int v = 2; v < 8; v++) {
                item(x, c, 8 + v, 4000 + 10 * c + v);
            }
            item(x, c, 16, c);
        }
        for (int v = 0; v < 8; v++) {
            item(x, 8, v, -2);
            item(x, 8, 8 + v, 4080 + v);
        }
        item(x, 8, 16, 9);
        for (int body = 0; body <= 8; body++) {
            for (int far : FAR) {
                item(x, body, far, -2);
            }
        }
        CHECK.same("after reading", Snapshot.of(x), before);
    }

    private static void item(OwnerDominance x, int body, int item, int due) {
        CHECK.due("getDecl(" + body + ", " + item + ")", x.getDecl(body, item), due);
    }

    private static void wrongBody() {
        OwnerDominance x = new OwnerDominance(8);
        x.addClass(0);
        x.addClass(0);
        int[] wrong = {-1, 2, 3, 7, 9, 10, Integer.MIN_VALUE, Integer.MAX_VALUE};
        for (int body : wrong) {
            for (int item = -1; item <= 17; item++) {
                item(x, body, item, -2);
            }
        }
    }

    private static void fieldsThatAreNot() {
        OwnerDominance x = new OwnerDominance(8);
        x.addClass(0);
        for (int count = 0; count <= 4; count++) {
            item(x, 0, 7, count);
            for (int f = 0; f < 4; f++) {
                item(x, 0, f, f < count ? 50 + f : -2);
            }
            x.addField(0, 50 + count);
        }
    }

    private static void everyStatus() {
        List<OwnerDominance> objects = new ArrayList<>(Frozen.all());
        for (OwnerDominance x : objects) {
            item(x, 0, 0, 0);
            item(x, 0, 1, -2);
            item(x, 0, 6, 0);
            item(x, 0, 7, 1);
            item(x, 0, 8, 16);
            item(x, 1, 8, -2);
            item(x, 8, 7, -2);
            item(x, 8, 8, 0);
        }
        int[] statements = {2, 1, 2, 2, 5, 2};
        for (int i = 0; i < objects.size(); i++) {
            item(objects.get(i), 8, 16, statements[i]);
        }
    }
}
