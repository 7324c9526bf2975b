/** Everything that can be read of an object, as text: equal texts mean that nothing has changed. */
final class Snapshot {
    private Snapshot() {
    }

    static String of(OwnerDominance x) {
        StringBuilder text = new StringBuilder();
        text.append("status ").append(x.getStatus()).append(" errorAt ").append(x.getErrorAt());
        text.append('\n').append(program(x)).append('\n').append(machine(x));
        return text.toString();
    }

    /** The same once the program has eight classes: what a refused call left for a class to come would show. */
    static String withEightClasses(OwnerDominance x) {
        for (int formals = 0; x.getDecl(7, 6) == -2 && formals < 8; formals++) {
            x.addClass(formals % 3);
        }
        return of(x);
    }

    static String program(OwnerDominance x) {
        StringBuilder text = new StringBuilder("program");
        for (int body = -1; body <= 9; body++) {
            text.append("\n body ").append(body).append(':');
            for (int item = -1; item <= 17; item++) {
                text.append(' ').append(x.getDecl(body, item));
            }
            for (int i = 0; i < 16; i++) {
                text.append(" |");
                for (int part = 0; part <= 2; part++) {
                    text.append(' ').append(x.getStmt(body, i, part));
                }
            }
        }
        return text.toString();
    }

    static String machine(OwnerDominance x) {
        StringBuilder text = new StringBuilder("machine");
        for (int obj = 0; obj < x.getObjectCount(); obj++) {
            text.append("\n object ").append(obj).append(':');
            for (int what = 0; what <= 7; what++) {
                text.append(' ').append(x.getObject(obj, what));
            }
        }
        for (int frame = 0; frame < x.getFrameCount(); frame++) {
            text.append("\n frame ").append(frame).append(':');
            for (int what = 0; what <= 11; what++) {
                text.append(' ').append(x.getFrame(frame, what));
            }
        }
        return text.toString();
    }

    /** What differs between two texts, as old->new in the order in which it stands there. */
    static String changes(String before, String after) {
        String[] old = before.split("\\s+");
        String[] now = after.split("\\s+");
        if (old.length != now.length) {
            return "there is more or less than before";
        }
        StringBuilder text = new StringBuilder();
        for (int i = 0; i < old.length; i++) {
            if (!old[i].equals(now[i])) {
                text.append(text.length() > 0 ? " " : "").append(old[i]).append("->").append(now[i]);
            }
        }
        return text.toString();
    }
}
