/** Objects that several tests begin with, and the ways in which they tell sets and orders. */
final class Made {
    private static final int DEFINES = 0;
    private static final int USES = 2;

    private Made() {
    }

    /** Pieces far from each other, in files of their own as long as there are some. */
    static ChangeUntangler apart(int pieces) {
        ChangeUntangler x = new ChangeUntangler();
        for (int k = 0; k < pieces; k++) {
            x.addPiece(k % 10, k * 500, k, 2 * k);
        }
        return x;
    }

    /** The same, but no evidence puts them together: needs alone are left to look at. */
    static ChangeUntangler unrelated(int pieces) {
        ChangeUntangler x = apart(pieces);
        for (int kind = 0; kind < 4; kind++) {
            x.setWeight(kind, 0);
        }
        return x;
    }

    /** A piece uses the name that has the other's number, which the other defines. */
    static void need(ChangeUntangler x, int piece, int other) {
        x.setNames(piece, USES, x.names(piece, USES) | 1 << other);
        x.setNames(other, DEFINES, 1 << other);
    }

    static String groups(ChangeUntangler x) {
        return sets(x, false);
    }

    static String parcels(ChangeUntangler x) {
        return sets(x, true);
    }

    private static String sets(ChangeUntangler x, boolean ofParcels) {
        StringBuilder text = new StringBuilder();
        int count = ofParcels ? x.parcelCount() : x.groupCount();
        for (int k = 0; k < count; k++) {
            text.append(k == 0 ? "" : " ").append(ofParcels ? x.parcel(k) : x.group(k));
        }
        return text.toString();
    }

    static String bestOrder(ChangeUntangler x) {
        StringBuilder text = new StringBuilder();
        for (int place = 0; place < x.parcelCount(); place++) {
            text.append(x.best(place));
        }
        return text.toString();
    }
}
