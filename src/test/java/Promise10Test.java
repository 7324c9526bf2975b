import java.util.List;

/** Promise 10: getStatus. */
public final class Promise10Test {
    private static final Check CHECK = new Check();

    public static void main(String[] args) {
        everyStatus();
        followsEveryCall();
        changesNothing();
        CHECK.end();
    }

    private static void everyStatus() {
        CHECK.says("`getStatus()` answers the current status");
        List<OwnerDominance> objects = Frozen.all();
        for (int i = 0; i < objects.size(); i++) {
            CHECK.due("getStatus()", objects.get(i).getStatus(), i + 1);
        }
        CHECK.due("getStatus()", new OwnerDominance(8).getStatus(), 0);
    }

    private static void followsEveryCall() {
        CHECK.says("the current status");
        OwnerDominance x = new OwnerDominance(8);
        CHECK.due("getStatus()", x.getStatus(), 0);
        x.compile(1);
        CHECK.due("getStatus() after an error", x.getStatus(), 0);
        x.addClass(0);
        CHECK.due("getStatus() after an edit", x.getStatus(), 0);
        x.compile(2);
        CHECK.due("getStatus() after a refused compile", x.getStatus(), 0);
        x.run(1);
        x.restart();
        CHECK.due("getStatus() after a refused run and restart", x.getStatus(), 0);
        x.compile(1);
        CHECK.due("getStatus() after compile", x.getStatus(), 1);
        x.run(0);
        CHECK.due("getStatus() after a refused run", x.getStatus(), 1);
        x.run(1);
        CHECK.due("getStatus() at the end", x.getStatus(), 2);
        x.restart();
        CHECK.due("getStatus() after restart", x.getStatus(), 1);
    }

    private static void changesNothing() {
        CHECK.says("`getStatus()` answers the current status and changes nothing.");
        List<OwnerDominance> objects = Frozen.all();
        objects.add(new OwnerDominance(8));
        for (OwnerDominance x : objects) {
            String before = Snapshot.of(x);
            int status = x.getStatus();
            CHECK.due("getStatus() again", x.getStatus(), status);
            CHECK.same("after getStatus()", Snapshot.of(x), before);
        }
    }
}
