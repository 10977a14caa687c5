/**
 * For each parameter of each method: the smallest and the greatest value that it may have are taken, and the ones just
 * beyond are refused, as are those far off.
 */
public final class RangeTest {
    private static final Class<IllegalArgumentException> ARGUMENT = IllegalArgumentException.class;
    private static final Class<IndexOutOfBoundsException> INDEX = IndexOutOfBoundsException.class;

    private static final int MOST_PIECES = 14;
    private static final int MOST_TO_ORDER = 9;

    /** A call with a value for the parameter that is looked at, and ordinary ones for the others. */
    interface Call {
        long with(ChangeUntangler x, int value);
    }

    public static void main(String[] args) {
        addPiece();
        sets();
        names();
        evidence();
        settings();
        sayings();
        brokenSets();
        purposes();
        for (int pieces = 0; pieces <= MOST_PIECES; pieces++) {
            pieceNumbers(pieces);
            pairsOfPieces(pieces);
            groupNumbers(pieces);
            parcelNumbers(pieces);
        }
        for (int pieces = 0; pieces <= MOST_TO_ORDER; pieces++) {
            places(pieces);
        }
        Check.end();
    }

    /** Three pieces, each of whose sets is another one. */
    private static ChangeUntangler three() {
        ChangeUntangler x = Made.apart(3);
        for (int piece = 0; piece < 3; piece++) {
            for (int what = 0; what < 4; what++) {
                x.setNames(piece, what, 1 << (4 * piece + what));
            }
        }
        return x;
    }

    private static void refused(String what, ChangeUntangler x, int[] values, Class<? extends RuntimeException> due,
            Call call) {
        for (int value : values) {
            Check.isThrown(what + " " + value, due, x, () -> call.with(x, value));
        }
    }

    private static int[] beyond(int least, int greatest) {
        return new int[] {least - 1, greatest + 1, Integer.MIN_VALUE, Integer.MAX_VALUE};
    }

    /** Looks at answers too: at the smallest value, and at the greatest one. */
    private static void range(String what, int least, long atLeast, int greatest, long atGreatest,
            Class<? extends RuntimeException> due, Call call) {
        Check.same(what + " " + least, atLeast, call.with(three(), least));
        Check.same(what + " " + greatest, atGreatest, call.with(three(), greatest));
        refused(what, three(), beyond(least, greatest), due, call);
    }

    /** A setter answers the value before, so what has been taken is seen at the next call. */
    private static void kept(String what, int least, int greatest, int first, Class<? extends RuntimeException> due,
            Call setter) {
        range(what, least, first, greatest, first, due, setter);
        ChangeUntangler x = three();
        setter.with(x, least);
        Check.same(what + " was " + least, least, setter.with(x, greatest));
        Check.same(what + " was " + greatest, greatest, setter.with(x, least));
    }

    private static void addPiece() {
        range("addPiece, file", 0, 3, 9, 3, ARGUMENT, (x, file) -> x.addPiece(file, 1, 2, 3));
        range("addPiece, line", 0, 3, 9999, 3, ARGUMENT, (x, line) -> x.addPiece(1, line, 2, 3));
        range("addPiece, added", 0, 3, 999, 3, ARGUMENT, (x, added) -> x.addPiece(1, 2, added, 3));
        range("addPiece, taken", 0, 3, 999, 3, ARGUMENT, (x, taken) -> x.addPiece(1, 2, 3, taken));
        ChangeUntangler x = new ChangeUntangler();
        x.addPiece(0, 0, 0, 999);
        x.addPiece(9, 9999, 999, 0);
        x.addPiece(9, 9980, 999, 999);
        x.addPiece(0, 19, 0, 0);
        x.setSpan(19);
        Check.same("the first file and the first line", 6, x.points(0, 3, 0));
        Check.same("the last file and the last line", 6, x.points(1, 2, 0));
        x.setSpan(18);
        Check.same("the first file and the first line", 0, x.points(0, 3, 0));
        Check.same("the last file and the last line", 0, x.points(1, 2, 0));
        int[] lines = {999, 999, 1998, 0};
        for (int parcel = 0; parcel < 4; parcel++) {
            Check.same("the least and the most lines", lines[parcel], x.lines(parcel));
        }
    }

    private static void sets() {
        range("setNames, piece", 0, 1 << 1, 2, 1 << 9, INDEX, (x, piece) -> x.setNames(piece, 1, 5));
        range("setNames, what", 0, 1 << 4, 3, 1 << 7, INDEX, (x, what) -> x.setNames(1, what, 5));
        range("names, piece", 0, 1 << 1, 2, 1 << 9, INDEX, (x, piece) -> x.names(piece, 1));
        range("names, what", 0, 1 << 4, 3, 1 << 7, INDEX, (x, what) -> x.names(1, what));
        for (int set = 0; set < 4; set++) {
            int what = set;
            kept("setNames, names", 0, 65535, 1 << (8 + what), ARGUMENT, (x, names) -> x.setNames(2, what, names));
        }
    }

    private static void names() {
        range("setName, name", 0, 1, 15, 1, INDEX, (x, name) -> x.setName(name, true, 0) ? 1 : 0);
        range("setName, uses", 0, 0, 9, 1, ARGUMENT, (x, uses) -> x.setName(3, false, uses) ? 1 : 0);
        for (int name = 0; name < 16; name += 15) {
            ChangeUntangler x = new ChangeUntangler();
            x.setName(name, false, 9);
            Check.same("a first or last name with the most uses", 1 << name, x.broken(0));
            Check.same("the most uses again", false, x.setName(name, false, 9));
            Check.same("the fewest uses", true, x.setName(name, false, 0));
            Check.same("a first or last name with the fewest uses", 0, x.broken(0));
        }
    }

    private static void evidence() {
        int[] weights = {6, 5, 8, 10};
        range("setWeight, kind", 0, 6, 3, 10, INDEX, (x, kind) -> x.setWeight(kind, 7));
        for (int of = 0; of < 4; of++) {
            int kind = of;
            kept("setWeight, weight", 0, 50, weights[kind], ARGUMENT, (x, weight) -> x.setWeight(kind, weight));
        }
        kept("setSpan", 0, 999, 20, ARGUMENT, (x, span) -> x.setSpan(span));
        range("points, kind", 0, 0, 3, 0, INDEX, (x, kind) -> x.points(0, 1, kind));
    }

    private static void settings() {
        kept("setThreshold", 1, 999, 12, ARGUMENT, (x, threshold) -> x.setThreshold(threshold));
        kept("setManner", 0, 2, 1, ARGUMENT, (x, manner) -> x.setManner(manner));
    }

    private static void sayings() {
        kept("say, what", 0, 2, 0, ARGUMENT, (x, what) -> x.say(2, 0, what));
        range("say, a", 0, 0, 2, 0, INDEX, (x, a) -> x.say(a, 1, 1));
        range("say, b", 0, 0, 2, 0, INDEX, (x, b) -> x.say(1, b, 1));
    }

    private static void brokenSets() {
        for (int pieces = 0; pieces <= MOST_PIECES; pieces++) {
            ChangeUntangler x = Made.apart(pieces);
            for (int k = 0; k < pieces; k++) {
                x.setNames(k, 2, 1 << k);
            }
            int all = (1 << pieces) - 1;
            Check.same("broken, no pieces", 0, x.broken(0));
            Check.same("broken, all pieces", all, x.broken(all));
            refused("broken", x, beyond(0, all), ARGUMENT, (y, set) -> y.broken(set));
            for (int noPiece = pieces; noPiece < 32; noPiece++) {
                int set = 1 << noPiece;
                Check.isThrown("broken, one that is no piece", ARGUMENT, () -> x.broken(set));
                Check.isThrown("broken, all and one that is no piece", ARGUMENT, () -> x.broken(set | all));
            }
        }
    }

    private static void purposes() {
        kept("setPurpose, purpose", 0, 9, 0, ARGUMENT, (x, purpose) -> x.setPurpose(1, purpose));
    }

    /** As many numbers as there are, from 0 on. */
    private static void numbers(String what, int count, ChangeUntangler x, Call call) {
        refused(what, x, new int[] {-1, count, count + 1, Integer.MIN_VALUE, Integer.MAX_VALUE}, INDEX, call);
        // a shift by 32 or more begins at 0 again
        refused(what, x, new int[] {31, 32, 64, -32}, INDEX, call);
        if (count > 0) {
            call.with(x, 0);
            call.with(x, count - 1);
        }
    }

    private static void pieceNumbers(int pieces) {
        numbers("setNames, piece", pieces, Made.apart(pieces), (x, piece) -> x.setNames(piece, 0, 1));
        numbers("names, piece", pieces, Made.apart(pieces), (x, piece) -> x.names(piece, 3));
        numbers("closest", pieces, Made.apart(pieces), (x, piece) -> x.closest(piece));
        numbers("groupOf", pieces, Made.apart(pieces), (x, piece) -> x.groupOf(piece));
        numbers("parcelOf", pieces, Made.apart(pieces), (x, piece) -> x.parcelOf(piece));
        numbers("setPurpose, piece", pieces, Made.apart(pieces), (x, piece) -> x.setPurpose(piece, 9));
    }

    private static void pairsOfPieces(int pieces) {
        pair("points, a", pieces, (x, a) -> x.points(a, other(a), 0));
        pair("points, b", pieces, (x, b) -> x.points(other(b), b, 3));
        pair("affinity, a", pieces, (x, a) -> x.affinity(a, other(a)));
        pair("affinity, b", pieces, (x, b) -> x.affinity(other(b), b));
        pair("say, a", pieces, (x, a) -> x.say(a, other(a), 2));
        pair("say, b", pieces, (x, b) -> x.say(other(b), b, 2));
        pair("needs, a", pieces, (x, a) -> x.needs(a, other(a)) ? 1 : 0);
        pair("needs, b", pieces, (x, b) -> x.needs(other(b), b) ? 1 : 0);
    }

    private static int other(int piece) {
        return piece == 0 ? 1 : 0;
    }

    private static void pair(String what, int pieces, Call call) {
        if (pieces >= 2) {
            numbers(what, pieces, Made.apart(pieces), call);
            return;
        }
        // of one piece or none there is no pair
        refused(what, Made.apart(pieces), new int[] {-1, 0, 1, 2, Integer.MIN_VALUE, Integer.MAX_VALUE}, INDEX, call);
    }

    /** The first of fourteen pieces are a group together, the others are one each. */
    private static ChangeUntangler inGroups(int groups) {
        ChangeUntangler x = Made.unrelated(groups == 0 ? 0 : MOST_PIECES);
        for (int piece = 0; groups > 0 && piece < MOST_PIECES - groups; piece++) {
            x.say(piece, piece + 1, 1);
        }
        return x;
    }

    private static void groupNumbers(int groups) {
        Check.same("groups", groups, inGroups(groups).groupCount());
        numbers("group", groups, inGroups(groups), (x, group) -> x.group(group));
        if (groups >= 2) {
            numbers("linkage, a", groups, inGroups(groups), (x, a) -> x.linkage(a, other(a)));
            numbers("linkage, b", groups, inGroups(groups), (x, b) -> x.linkage(other(b), b));
            return;
        }
        int[] any = {-1, 0, 1, 2, Integer.MIN_VALUE, Integer.MAX_VALUE};
        refused("linkage, a", inGroups(groups), any, INDEX, (x, a) -> x.linkage(a, other(a)));
        refused("linkage, b", inGroups(groups), any, INDEX, (x, b) -> x.linkage(other(b), b));
    }

    /** The first of fourteen pieces, each a group, are a parcel together, the others are one each. */
    private static ChangeUntangler inParcels(int parcels) {
        ChangeUntangler x = Made.unrelated(parcels == 0 ? 0 : MOST_PIECES);
        for (int piece = 0; parcels > 0 && piece < MOST_PIECES - parcels; piece++) {
            Made.need(x, piece, piece + 1);
            Made.need(x, piece + 1, piece);
        }
        return x;
    }

    private static void parcelNumbers(int parcels) {
        Check.same("groups", parcels == 0 ? 0 : MOST_PIECES, inParcels(parcels).groupCount());
        Check.same("parcels", parcels, inParcels(parcels).parcelCount());
        numbers("parcel", parcels, inParcels(parcels), (x, parcel) -> x.parcel(parcel));
        numbers("lines", parcels, inParcels(parcels), (x, parcel) -> x.lines(parcel));
    }

    private static void places(int parcels) {
        numbers("best", parcels, inParcels(parcels), (x, place) -> x.best(place));
        numbers("best, of as many pieces", parcels, Made.unrelated(parcels), (x, place) -> x.best(place));
    }
}
