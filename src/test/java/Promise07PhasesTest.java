import java.util.ArrayList;
import java.util.List;

/** Promise 7: the order of the three phases. From every place on everything is wrong, and that place is told. */
public final class Promise07PhasesTest {
    private static final Check CHECK = new Check();
    private static final int MAIN = OwnerDominance.BODY_MAIN;

    public static void main(String[] args) {
        CHECK.says("Otherwise it checks the program in that mode in three phases and stops at the first error.");
        int[] classCounts = {1, 3, 8};
        for (int classes : classCounts) {
            List<int[]> places = places(classes);
            for (int first = 0; first <= places.size(); first++) {
                for (int mode = 0; mode <= 1; mode++) {
                    wrongFrom(places, first, classes, mode);
                }
            }
        }
        everyPlaceAlone();
        unsetFields();
        CHECK.end();
    }

    /** Everything else is right: no place is left out, at either end of a range. */
    private static void everyPlaceAlone() {
        String[] phases = {
            "field types f = 0..fieldCount(c)-1 (item f); then param (item 4); then return (item 5).",
            "locals v = 2..7 in a class, or v = 0..7 in main (item 8+v);",
            "For c = 0..classCount-1, then main: statements i = 0..count-1 (item 16+i)."};
        List<int[]> places = places(8);
        for (int phase = 0; phase < 3; phase++) {
            CHECK.says(phases[phase]);
            for (int[] place : places) {
                int itsPhase = place[1] < 8 ? 0 : place[1] < 16 ? 1 : 2;
                if (itsPhase == phase) {
                    wrongAlone(places, place);
                }
            }
        }
    }

    private static void wrongAlone(List<int[]> places, int[] wrong) {
        for (int mode = 0; mode <= 1; mode++) {
            OwnerDominance x = new OwnerDominance(8);
            for (int c = 0; c < 8; c++) {
                x.addClass(0);
            }
            int due = OwnerDominance.E_OK;
            for (int[] place : places) {
                int code = put(x, place[0], place[1], place == wrong);
                due = place == wrong ? code : due;
            }
            String what = "wrong at body " + wrong[0] + ", item " + wrong[1];
            CHECK.due(what + ": compile(" + mode + ")", x.compile(mode), due);
            CHECK.due(what + ": getErrorAt()", x.getErrorAt(), wrong[0] * 32 + wrong[1]);
        }
    }

    /** What is not there is not looked at: no field, no statement, and no class beyond classCount. */
    private static void unsetFields() {
        CHECK.says("For c = 0..classCount-1, in this order: field types f = 0..fieldCount(c)-1 (item f);");
        for (int classes = 1; classes <= 8; classes++) {
            for (int mode = 0; mode <= 1; mode++) {
                OwnerDominance x = new OwnerDominance(8);
                for (int c = 0; c < classes; c++) {
                    x.addClass(0);
                }
                CHECK.due("compile(" + mode + ") of " + classes + " empty classes", x.compile(mode), 0);
                CHECK.due("getErrorAt()", x.getErrorAt(), -1);
            }
        }
    }

    /** Body and item, in the order in which compile looks at them. */
    private static List<int[]> places(int classes) {
        List<int[]> places = new ArrayList<>();
        for (int c = 0; c < classes; c++) {
            for (int item = 0; item <= 5; item++) {
                places.add(new int[] {c, item});
            }
        }
        for (int i = 0; i <= classes; i++) {
            int body = i < classes ? i : MAIN;
            for (int v = body == MAIN ? 0 : 2; v < 8; v++) {
                places.add(new int[] {body, 8 + v});
            }
        }
        for (int i = 0; i <= classes; i++) {
            int body = i < classes ? i : MAIN;
            for (int s = 0; s < 16; s++) {
                places.add(new int[] {body, 16 + s});
            }
        }
        return places;
    }

    private static void wrongFrom(List<int[]> places, int first, int classes, int mode) {
        OwnerDominance x = new OwnerDominance(8);
        for (int c = 0; c < classes; c++) {
            x.addClass(0);
        }
        int due = OwnerDominance.E_OK;
        for (int i = 0; i < places.size(); i++) {
            int code = put(x, places.get(i)[0], places.get(i)[1], i >= first);
            if (i == first) {
                due = code;
            }
        }
        String what = classes + " classes, wrong from place " + first;
        CHECK.due(what + ": compile(" + mode + ")", x.compile(mode), due);
        int at = first < places.size() ? places.get(first)[0] * 32 + places.get(first)[1] : -1;
        CHECK.due(what + ": getErrorAt()", x.getErrorAt(), at);
        CHECK.due(what + ": getStatus()", x.getStatus(), first < places.size() ? 0 : 1);
    }

    /** Answers the code that compile tells for this place if it is wrong. */
    private static int put(OwnerDominance x, int body, int item, boolean wrong) {
        if (item >= 16) {
            x.addStmt(body, wrong ? 0 : OwnerDominance.OP_NULL, 2, 0);
            return OwnerDominance.E_BADOPERAND;
        }
        int type = wrong ? -1 : 0;
        if (item >= 8) {
            x.setLocal(body, item - 8, type);
        } else if (item < 4) {
            x.addField(body, type);
        } else if (item == 4) {
            x.setSignature(body, type, x.getDecl(body, 5));
        } else {
            x.setSignature(body, x.getDecl(body, 4), type);
        }
        return OwnerDominance.E_BADTYPE;
    }
}
