/** A list owns its node; main takes the node out of it, which only unchecked mode lets through. */
public final class Example {
    private static final int MAIN = OwnerDominance.BODY_MAIN;

    public static void main(String[] args) {
        OwnerDominance x = new OwnerDominance(8);                // at most 8 objects (4 to 32)
        int node = x.addClass(0);                                // class 0, without owner parameters
        int list = x.addClass(0);                                // class 1
        int ownNode = node + 16 * OwnerDominance.A_REP;          // a Node owned by this object
        x.addField(list, ownNode);                               // field 0 of List
        x.setLocal(list, 2, ownNode);                            // v2 in List's method
        x.addStmt(list, OwnerDominance.OP_NEW, 2, ownNode);      // v2 = new Node
        x.addStmt(list, OwnerDominance.OP_STORE, 0, 8 * 0 + 2);  // this.field 0 = v2

        x.setLocal(MAIN, 0, list);                               // v0 is a List, v1 to v7 stay Nodes (0)
        x.addStmt(MAIN, OwnerDominance.OP_NEW, 0, list);         // v0 = new List
        x.addStmt(MAIN, OwnerDominance.OP_CALL, 1, 8 * 1 + 0);   // v1 = v0.m(v1)
        x.addStmt(MAIN, OwnerDominance.OP_LOAD, 2, 8 * 0 + 0);   // v2 = v0.field 0

        System.out.println("checked: " + x.compile(OwnerDominance.MODE_CHECKED) + " at " + x.getErrorAt());
        System.out.println("unchecked: " + x.compile(OwnerDominance.MODE_UNCHECKED));
        System.out.println("5 steps: " + x.run(5));
        System.out.println("1 step more: " + x.run(1));
        System.out.println("objects: " + x.getObjectCount());
        System.out.println("owner of object 1: " + x.getObject(1, 1));
        System.out.println("main's v2: " + x.getFrame(0, 4 + 2));
    }
}
