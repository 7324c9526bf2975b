/** Everything that can be read of an object, as text: equal texts mean that nothing has changed. */
final class Snapshot {
    private Snapshot() {
    }

    static String of(OwnerDominance x) {
        StringBuilder text = new StringBuilder();
        text.append("status ").append(x.getStatus()).append(" errorAt ").append(x.getErrorAt());
        text.append('\n').append(program(x)).append('\n').append(machine(x));
        return text.toString();
    }

    static String program(OwnerDominance x) {
        StringBuilder text = new StringBuilder("program");
        for (int body = -1; body <= 9; body++) {
            text.append("\n body ").append(body).append(':');
            for (int item = -1; item <= 17; item++) {
                text.append(' ').append(x.getDecl(body, item));
            }
            int count = x.getDecl(body, 16);
            for (int i = 0; i < count; i++) {
                text.append(" (");
                for (int part = 0; part <= 2; part++) {
                    text.append(' ').append(x.getStmt(body, i, part));
                }
                text.append(')');
            }
        }
        return text.toString();
    }

    static String machine(OwnerDominance x) {
        StringBuilder text = new StringBuilder("machine");
        for (int obj = 0; obj < x.getObjectCount(); obj++) {
            text.append("\n object ").append(obj).append(':');
            for (int what = 0; what <= 7; what++) {
                text.append(' ').append(x.getObject(obj, what));
            }
        }
        for (int frame = 0; frame < x.getFrameCount(); frame++) {
            text.append("\n frame ").append(frame).append(':');
            for (int what = 0; what <= 11; what++) {
                text.append(' ').append(x.getFrame(frame, what));
            }
        }
        return text.toString();
    }
}
