import java.util.List;

/** Promise 10: getStatus. */
public final class Promise10Test {
    private static final Check CHECK = new Check();

    public static void main(String[] args) {
        List<OwnerDominance> objects = Frozen.all();
        for (int i = 0; i < objects.size(); i++) {
            OwnerDominance x = objects.get(i);
            String before = Snapshot.of(x);
            CHECK.due("getStatus()", x.getStatus(), i + 1);
            CHECK.due("getStatus() again", x.getStatus(), i + 1);
            CHECK.same("after getStatus()", Snapshot.of(x), before);
        }
        OwnerDominance x = new OwnerDominance(8);
        CHECK.due("getStatus()", x.getStatus(), 0);
        x.compile(1);
        CHECK.due("getStatus() after an error", x.getStatus(), 0);
        x.addClass(0);
        CHECK.due("getStatus() after an edit", x.getStatus(), 0);
        x.compile(2);
        CHECK.due("getStatus() after a refused compile", x.getStatus(), 0);
        x.compile(1);
        CHECK.due("getStatus() after compile", x.getStatus(), 1);
        x.run(0);
        CHECK.due("getStatus() after a refused run", x.getStatus(), 1);
        x.run(1);
        CHECK.due("getStatus() at the end", x.getStatus(), 2);
        x.restart();
        CHECK.due("getStatus() after restart", x.getStatus(), 1);
        CHECK.end();
    }
}
