/** Type words, written the way the document tells them: a class and its owners. */
final class Types {
    static final int WORLD = OwnerDominance.A_WORLD;
    static final int OWNER = OwnerDominance.A_OWNER;
    static final int REP = OwnerDominance.A_REP;
    static final int P1 = OwnerDominance.A_P1;
    static final int P2 = OwnerDominance.A_P2;

    private Types() {
    }

    static int type(int cls, int owner) {
        return cls | owner << 4;
    }

    static int type(int cls, int owner, int first) {
        return type(cls, owner) | first << 8;
    }

    static int type(int cls, int owner, int first, int second) {
        return type(cls, owner, first) | second << 12;
    }
}
