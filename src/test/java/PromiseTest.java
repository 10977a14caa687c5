/** For each promise of the document: ordinary inputs, the edges that it names, and wrong inputs. */
public final class PromiseTest {
    private static final Class<IllegalArgumentException> ARGUMENT = IllegalArgumentException.class;
    private static final Class<IllegalStateException> STATE = IllegalStateException.class;
    private static final Class<IndexOutOfBoundsException> INDEX = IndexOutOfBoundsException.class;
    private static final int[] NOT_PIECES = {-1, 3, 4, 14, 31, 32, Integer.MAX_VALUE, Integer.MIN_VALUE};

    private static final int DEFINES = 0;
    private static final int REMOVES = 1;
    private static final int USES = 2;
    private static final int DROPS = 3;

    public static void main(String[] args) {
        promise1NewObject();
        promise2AddPiece();
        promise3SetNames();
        promise4Names();
        promise5SetName();
        promise6DropPiece();
        promise7PieceCount();
        promise8SetWeight();
        promise9SetSpan();
        promise10Points();
        promise10PointsOfNames();
        promise10Alike();
        promise11Affinity();
        promise12Closest();
        promise13SetThreshold();
        promise14SetManner();
        promise14TheManners();
        promise15Say();
        promise15SayByWayOfOthers();
        promise16To18Groups();
        promise16ForbiddenGroups();
        promise16SeveralPairs();
        promise19Linkage();
        promise20LastLinkage();
        promise21Needs();
        promise22To24Parcels();
        promise24OrderOfParcels();
        promise25Knots();
        promise26Lines();
        promise27Broken();
        promise28Breakage();
        promise29And30Best();
        promise29And30TooManyParcels();
        promise31SetPurpose();
        promise32Agreement();
        promise33Digest();
        promise33DigestOfEach();
        Check.end();
    }

    private static void promise1NewObject() {
        ChangeUntangler x = new ChangeUntangler();
        Check.same("pieces at first", 0, x.pieceCount());
        Check.same("groups at first", 0, x.groupCount());
        Check.same("parcels at first", 0, x.parcelCount());
        Check.same("weight of NEAR at first", 6, x.setWeight(0, 6));
        Check.same("weight of FLOW at first", 5, x.setWeight(1, 5));
        Check.same("weight of MOVE at first", 8, x.setWeight(2, 8));
        Check.same("weight of ALIKE at first", 10, x.setWeight(3, 10));
        Check.same("span at first", 20, x.setSpan(20));
        Check.same("threshold at first", 12, x.setThreshold(12));
        Check.same("manner at first", 1, x.setManner(1));
        for (int name = 0; name < 16; name++) {
            Check.same("name at first is known so", false, x.setName(name, false, 0));
        }
        ChangeUntangler y = Made.apart(4);
        Check.same("objects are apart", 0, x.pieceCount());
        Check.same("objects are apart", 4, y.pieceCount());
    }

    private static void promise2AddPiece() {
        ChangeUntangler x = new ChangeUntangler();
        int[][] wrong = {
            {-1, 0, 0, 0}, {10, 0, 0, 0}, {0, -1, 0, 0}, {0, 10000, 0, 0}, {0, 0, -1, 0}, {0, 0, 1000, 0},
            {0, 0, 0, -1}, {0, 0, 0, 1000}, {Integer.MIN_VALUE, 0, 0, 0}, {0, Integer.MAX_VALUE, 0, 0},
        };
        for (int[] w : wrong) {
            Check.isThrown("addPiece of what is none", ARGUMENT, x, () -> x.addPiece(w[0], w[1], w[2], w[3]));
        }
        Check.same("number of the first piece", 0, x.addPiece(0, 0, 0, 0));
        Check.same("number of the second piece", 1, x.addPiece(9, 9999, 999, 999));
        Check.same("a new piece has no names", 0, x.names(1, 0) | x.names(1, 1) | x.names(1, 2) | x.names(1, 3));
        for (int k = 2; k < 14; k++) {
            Check.same("number of a piece", k, x.addPiece(1, k, 1, 1));
        }
        Check.isThrown("addPiece of a 15th", STATE, x, () -> x.addPiece(0, 0, 0, 0));
        for (int[] w : wrong) {
            Check.isThrown("a wrong one comes first", ARGUMENT, x, () -> x.addPiece(w[0], w[1], w[2], w[3]));
        }
        Check.same("pieces after all that", 14, x.pieceCount());
    }

    private static void promise3SetNames() {
        ChangeUntangler x = Made.apart(3);
        for (int what = 0; what < 4; what++) {
            Check.same("set before", 0, x.setNames(1, what, 65535 - what));
            Check.same("set before", 65535 - what, x.setNames(1, what, 1 << what));
            Check.same("set now", 1 << what, x.names(1, what));
            Check.same("set of another piece", 0, x.names(0, what) | x.names(2, what));
        }
        Check.same("the other sets stay", 1, x.names(1, 0));
        for (int piece : NOT_PIECES) {
            Check.isThrown("setNames of no piece", INDEX, x, () -> x.setNames(piece, 0, 0));
            Check.isThrown("no piece comes first", INDEX, x, () -> x.setNames(piece, 0, -1));
        }
        for (int what : new int[] {-1, 4, Integer.MAX_VALUE, Integer.MIN_VALUE}) {
            Check.isThrown("setNames of no set", INDEX, x, () -> x.setNames(1, what, 0));
            Check.isThrown("no set comes first", INDEX, x, () -> x.setNames(1, what, 65536));
        }
        for (int names : new int[] {-1, 65536, Integer.MAX_VALUE, Integer.MIN_VALUE}) {
            Check.isThrown("setNames of no names", ARGUMENT, x, () -> x.setNames(1, 0, names));
        }
    }

    private static void promise4Names() {
        ChangeUntangler x = Made.apart(3);
        x.setNames(2, DROPS, 65535);
        Check.same("names", 65535, x.names(2, DROPS));
        Check.same("names", 0, x.names(2, USES));
        for (int piece : NOT_PIECES) {
            Check.isThrown("names of no piece", INDEX, x, () -> x.names(piece, 0));
        }
        Check.isThrown("names of no set", INDEX, x, () -> x.names(0, -1));
        Check.isThrown("names of no set", INDEX, x, () -> x.names(0, 4));
    }

    private static void promise5SetName() {
        ChangeUntangler x = Made.apart(1);
        Check.same("the same again", false, x.setName(0, false, 0));
        Check.same("defined", true, x.setName(0, true, 0));
        Check.same("the same again", false, x.setName(0, true, 0));
        Check.same("used", true, x.setName(0, true, 9));
        Check.same("both others", true, x.setName(0, false, 1));
        Check.same("not defined alone", false, x.setName(0, false, 1));
        Check.same("another name stays", false, x.setName(1, false, 0));
        Check.same("the last name", true, x.setName(15, true, 0));
        for (int name : new int[] {-1, 16, 32, Integer.MAX_VALUE, Integer.MIN_VALUE}) {
            Check.isThrown("setName of no name", INDEX, x, () -> x.setName(name, true, 0));
            Check.isThrown("no name comes first", INDEX, x, () -> x.setName(name, true, 10));
        }
        for (int uses : new int[] {-1, 10, Integer.MAX_VALUE, Integer.MIN_VALUE}) {
            Check.isThrown("setName of no uses", ARGUMENT, x, () -> x.setName(0, true, uses));
        }
    }

    private static void promise6DropPiece() {
        ChangeUntangler x = new ChangeUntangler();
        Check.isThrown("dropPiece of none", STATE, x, () -> x.dropPiece());
        x.addPiece(0, 0, 1, 1);
        x.addPiece(1, 0, 1, 1);
        x.addPiece(2, 0, 1, 1);
        for (int what = 0; what < 4; what++) {
            x.setNames(2, what, 7);
        }
        x.setPurpose(2, 5);
        x.say(2, 0, 1);
        x.say(1, 2, 2);
        Check.same("pieces left", 2, x.dropPiece());
        Check.isThrown("the piece is gone", INDEX, x, () -> x.names(2, 0));
        Check.same("what it defined is gone", 0, x.broken(3));
        Check.same("groups left", "1 2", Made.groups(x));
        Check.same("what joined two through it is gone", 0, x.say(0, 1, 1));
        x.say(0, 1, 0);
        x.addPiece(3, 0, 1, 1);
        Check.same("nothing is said of the next", "1 2 4", Made.groups(x));
        Check.same("nothing is said of the next", 0, x.say(2, 0, 2));
        x.say(2, 0, 0);
        Check.same("the next has no names", 0, x.names(2, 0) | x.names(2, 1) | x.names(2, 2) | x.names(2, 3));
        Check.same("nothing is said of the next", 0, x.say(0, 2, 0));
        Check.same("nothing is said of the next", 0, x.say(2, 1, 0));
        Check.same("the next has purpose 0", 0, x.setPurpose(2, 0));
        Check.same("pieces left", 2, x.dropPiece());
        Check.same("pieces left", 1, x.dropPiece());
        Check.same("pieces left", 0, x.dropPiece());
        Check.isThrown("dropPiece of none", STATE, x, () -> x.dropPiece());

        ChangeUntangler y = Made.apart(3);
        y.say(0, 1, 1);
        y.dropPiece();
        Check.same("what was said of others stays", "3", Made.groups(y));
        y.dropPiece();
        Check.same("groups without it", "1", Made.groups(y));
        Check.same("parcels without it", "1", Made.parcels(y));
        y.addPiece(5, 0, 0, 0);
        Check.same("groups with another one", "1 2", Made.groups(y));
    }

    private static void promise7PieceCount() {
        ChangeUntangler x = new ChangeUntangler();
        for (int k = 1; k <= 14; k++) {
            x.addPiece(0, 0, 0, 0);
            Check.same("pieces", k, x.pieceCount());
        }
        x.dropPiece();
        Check.same("pieces", 13, x.pieceCount());
    }

    private static void promise8SetWeight() {
        ChangeUntangler x = new ChangeUntangler();
        x.addPiece(0, 0, 0, 0);
        x.addPiece(0, 0, 0, 0);
        Check.same("weight before", 6, x.setWeight(0, 50));
        Check.same("points with it", 50, x.points(0, 1, 0));
        Check.same("weight before", 50, x.setWeight(0, 0));
        Check.same("points with it", 0, x.points(0, 1, 0));
        Check.same("weight before", 10, x.setWeight(3, 11));
        for (int kind : new int[] {-1, 4, Integer.MAX_VALUE, Integer.MIN_VALUE}) {
            Check.isThrown("setWeight of no kind", INDEX, x, () -> x.setWeight(kind, 1));
            Check.isThrown("no kind comes first", INDEX, x, () -> x.setWeight(kind, 51));
        }
        for (int weight : new int[] {-1, 51, Integer.MAX_VALUE, Integer.MIN_VALUE}) {
            Check.isThrown("setWeight of no weight", ARGUMENT, x, () -> x.setWeight(1, weight));
        }
    }

    private static void promise9SetSpan() {
        ChangeUntangler x = new ChangeUntangler();
        x.addPiece(0, 1000, 0, 0);
        x.addPiece(0, 1, 0, 0);
        Check.same("span before", 20, x.setSpan(999));
        Check.same("points at the span", 6, x.points(0, 1, 0));
        Check.same("span before", 999, x.setSpan(998));
        Check.same("points beyond the span", 0, x.points(0, 1, 0));
        Check.same("span before", 998, x.setSpan(0));
        for (int span : new int[] {-1, 1000, Integer.MAX_VALUE, Integer.MIN_VALUE}) {
            Check.isThrown("setSpan of no span", ARGUMENT, x, () -> x.setSpan(span));
        }
        Check.same("span before", 0, x.setSpan(1));
    }

    private static void promise10Points() {
        ChangeUntangler x = new ChangeUntangler();
        x.addPiece(4, 100, 0, 0);
        x.addPiece(4, 120, 0, 0);
        x.addPiece(5, 100, 0, 0);
        Check.same("NEAR at the span", 6, x.points(0, 1, 0));
        Check.same("NEAR from the other side", 6, x.points(1, 0, 0));
        Check.same("NEAR in another file", 0, x.points(0, 2, 0));
        x.setSpan(19);
        Check.same("NEAR beyond the span", 0, x.points(0, 1, 0));
        Check.same("NEAR beyond the span", 0, x.points(1, 0, 0));
        for (int piece : NOT_PIECES) {
            Check.isThrown("points of no piece", INDEX, x, () -> x.points(piece, 0, 0));
            Check.isThrown("points of no piece", INDEX, x, () -> x.points(0, piece, 0));
            Check.isThrown("no piece comes first", INDEX, x, () -> x.points(piece, piece, 0));
        }
        for (int kind : new int[] {-1, 4, Integer.MAX_VALUE, Integer.MIN_VALUE}) {
            Check.isThrown("points of no kind", INDEX, x, () -> x.points(0, 1, kind));
            Check.isThrown("no kind comes first", INDEX, x, () -> x.points(1, 1, kind));
        }
        Check.isThrown("points of the same piece", ARGUMENT, x, () -> x.points(2, 2, 3));
    }

    private static void promise10PointsOfNames() {
        ChangeUntangler x = Made.apart(3);
        x.setNames(0, DEFINES, 0b0111);
        x.setNames(1, USES, 0b1110);
        Check.same("FLOW for each name", 10, x.points(0, 1, 1));
        Check.same("FLOW from the other side", 10, x.points(1, 0, 1));
        x.setNames(1, DEFINES, 0b1001);
        x.setNames(0, USES, 0b1011);
        Check.same("FLOW twice", 20, x.points(0, 1, 1));
        Check.same("no MOVE", 0, x.points(0, 1, 2));
        x.setNames(0, REMOVES, 0b1000);
        Check.same("MOVE", 8, x.points(0, 1, 2));
        Check.same("MOVE from the other side", 8, x.points(1, 0, 2));
        x.setNames(1, REMOVES, 0b0011);
        Check.same("MOVE both ways", 24, x.points(0, 1, 2));
        x.setNames(2, DROPS, 65535);
        Check.same("drops give no FLOW", 0, x.points(0, 2, 1));
        Check.same("drops give no MOVE", 0, x.points(0, 2, 2));
        x.setName(0, true, 9);
        Check.same("FLOW of what the code defines", 20, x.points(0, 1, 1));

        ChangeUntangler y = Made.apart(2);
        y.setNames(0, DEFINES, 1);
        y.setNames(0, USES, 1);
        y.setNames(1, DEFINES, 1);
        y.setNames(1, USES, 1);
        Check.same("FLOW twice for one name", 10, y.points(0, 1, 1));
        y.setNames(1, DEFINES, 0);
        y.setNames(1, USES, 0);
        Check.same("FLOW not of a piece alone", 0, y.points(0, 1, 1));
    }

    private static void promise10Alike() {
        ChangeUntangler x = Made.apart(2);
        Check.same("ALIKE without names", 0, x.points(0, 1, 3));
        x.setNames(0, DEFINES, 0b000011);
        Check.same("ALIKE with nothing in common", 0, x.points(0, 1, 3));
        x.setNames(0, REMOVES, 0b000110);
        x.setNames(0, USES, 0b001000);
        x.setNames(0, DROPS, 0b010000);
        x.setNames(1, DROPS, 0b110001);
        Check.same("ALIKE, rounded down", 3, x.points(0, 1, 3));
        x.setNames(1, USES, 0b001110);
        Check.same("ALIKE, rounded down", 8, x.points(0, 1, 3));
        Check.same("ALIKE from the other side", 8, x.points(1, 0, 3));
        x.setNames(0, DEFINES, 0b100011);
        Check.same("ALIKE with all names", 10, x.points(0, 1, 3));
        x.setWeight(3, 47);
        x.setNames(0, DEFINES, 65535);
        Check.same("the weight is multiplied first", 17, x.points(0, 1, 3));
    }

    private static void promise11Affinity() {
        ChangeUntangler x = Made.apart(3);
        Check.same("affinity of unrelated ones", 0, x.affinity(0, 1));
        x.addPiece(0, 15, 0, 0);
        x.setNames(0, DEFINES, 0b01);
        x.setNames(3, USES, 0b11);
        x.setNames(3, REMOVES, 0b01);
        Check.same("affinity", 6 + 5 + 8 + 5, x.affinity(0, 3));
        Check.same("affinity from the other side", 24, x.affinity(3, 0));
        x.setWeight(2, 50);
        Check.same("affinity", 66, x.affinity(0, 3));
        x.dropPiece();
        for (int piece : NOT_PIECES) {
            Check.isThrown("affinity of no piece", INDEX, x, () -> x.affinity(piece, 1));
            Check.isThrown("affinity of no piece", INDEX, x, () -> x.affinity(1, piece));
            Check.isThrown("no piece comes first", INDEX, x, () -> x.affinity(piece, piece));
        }
        Check.isThrown("affinity of the same piece", ARGUMENT, x, () -> x.affinity(1, 1));
    }

    private static void promise12Closest() {
        ChangeUntangler x = Made.apart(1);
        Check.same("closest of a piece alone", -1, x.closest(0));
        ChangeUntangler y = Made.apart(3);
        Check.same("closest of unrelated ones", 1, y.closest(0));
        Check.same("closest of unrelated ones", 0, y.closest(1));
        y.setNames(2, USES, 1);
        y.setNames(1, USES, 3);
        y.setNames(0, USES, 1);
        Check.same("closest", 2, y.closest(0));
        Check.same("of several the smallest", 0, y.closest(1));
        y.say(0, 2, 2);
        Check.same("whatever was said", 2, y.closest(0));
        for (int piece : NOT_PIECES) {
            Check.isThrown("closest of no piece", INDEX, y, () -> y.closest(piece));
        }
    }

    private static void promise13SetThreshold() {
        ChangeUntangler x = Made.apart(2);
        x.setNames(0, DEFINES, 3);
        x.setNames(1, USES, 3);
        Check.same("affinity", 20, x.affinity(0, 1));
        Check.same("threshold before", 12, x.setThreshold(20));
        Check.same("linkage that is the threshold", "3", Made.groups(x));
        Check.same("threshold before", 20, x.setThreshold(21));
        Check.same("linkage below the threshold", "1 2", Made.groups(x));
        Check.same("threshold before", 21, x.setThreshold(999));
        Check.same("threshold before", 999, x.setThreshold(1));
        Check.same("groups again", "3", Made.groups(x));
        for (int threshold : new int[] {0, -1, 1000, Integer.MAX_VALUE, Integer.MIN_VALUE}) {
            Check.isThrown("setThreshold of none", ARGUMENT, x, () -> x.setThreshold(threshold));
        }
        ChangeUntangler y = Made.apart(2);
        y.setThreshold(1);
        Check.same("no affinity is below the least threshold", "1 2", Made.groups(y));
    }

    private static void promise14SetManner() {
        ChangeUntangler x = Made.apart(2);
        Check.same("manner before", 1, x.setManner(0));
        Check.same("manner before", 0, x.setManner(2));
        Check.same("manner before", 2, x.setManner(1));
        for (int manner : new int[] {-1, 3, Integer.MAX_VALUE, Integer.MIN_VALUE}) {
            Check.isThrown("setManner of none", ARGUMENT, x, () -> x.setManner(manner));
        }
        Check.same("manner before", 1, x.setManner(1));
    }

    /** Piece 0 and 1 must be together; 2 is near to 1, and uses what 0 defines: affinities 15, 6. */
    private static ChangeUntangler threePieces() {
        ChangeUntangler x = new ChangeUntangler();
        x.addPiece(0, 0, 0, 0);
        x.addPiece(1, 0, 0, 0);
        x.addPiece(1, 20, 0, 0);
        x.setNames(0, DEFINES, 1);
        x.setNames(2, USES, 1);
        x.say(0, 1, 1);
        x.setThreshold(999);
        return x;
    }

    private static void promise14TheManners() {
        ChangeUntangler x = threePieces();
        Check.same("the average, rounded down", 10, x.linkage(0, 1));
        x.setManner(0);
        Check.same("the greatest", 15, x.linkage(0, 1));
        x.setManner(2);
        Check.same("the least", 6, x.linkage(0, 1));
        int[] linkages = {15, 10, 6};
        for (int manner = 0; manner < 3; manner++) {
            x.setManner(manner);
            x.setThreshold(linkages[manner] + 1);
            Check.same("groups above it", "3 4", Made.groups(x));
            x.setThreshold(linkages[manner]);
            Check.same("groups at it", "7", Made.groups(x));
        }
    }

    private static void promise15Say() {
        ChangeUntangler x = Made.apart(3);
        Check.same("said before", 0, x.say(0, 1, 1));
        Check.same("groups", "3 4", Made.groups(x));
        Check.same("said before, from the other side", 1, x.say(1, 0, 1));
        Check.same("said before", 1, x.say(1, 0, 2));
        Check.same("groups", "1 2 4", Made.groups(x));
        Check.same("said before", 2, x.say(0, 1, 1));
        Check.same("said before", 1, x.say(0, 1, 0));
        Check.same("groups", "1 2 4", Made.groups(x));
        Check.same("said before", 0, x.say(0, 1, 0));
        for (int piece : NOT_PIECES) {
            Check.isThrown("say of no piece", INDEX, x, () -> x.say(piece, 0, 1));
            Check.isThrown("say of no piece", INDEX, x, () -> x.say(0, piece, 1));
            Check.isThrown("no piece comes first", INDEX, x, () -> x.say(piece, piece, 3));
        }
        for (int what : new int[] {-1, 3, Integer.MAX_VALUE, Integer.MIN_VALUE}) {
            Check.isThrown("say of nothing", ARGUMENT, x, () -> x.say(0, 1, what));
        }
        Check.isThrown("say of the same piece", ARGUMENT, x, () -> x.say(1, 1, 1));
        Check.isThrown("say of the same piece", ARGUMENT, x, () -> x.say(1, 1, 0));
        Check.same("nothing was said then", 0, x.say(0, 1, 0));
    }

    private static void promise15SayByWayOfOthers() {
        ChangeUntangler x = Made.apart(14);
        for (int piece = 12; piece >= 0; piece--) {
            x.say(piece + 1, piece, 1);
        }
        Check.same("a chain is one group", "16383", Made.groups(x));
        Check.isThrown("the ends of a chain", STATE, x, () -> x.say(0, 13, 2));
        Check.isThrown("the ends of a chain", STATE, x, () -> x.say(13, 0, 2));
        Check.isThrown("a wrong one comes first", ARGUMENT, x, () -> x.say(0, 13, 3));
        Check.same("nothing was said of the ends", 0, x.say(0, 13, 0));
        Check.same("a link opened", 1, x.say(6, 7, 2));
        Check.same("now they may be apart", 0, x.say(0, 13, 2));
        Check.isThrown("the link closed again", STATE, x, () -> x.say(7, 6, 1));
        Check.isThrown("another way round", STATE, x, () -> x.say(5, 9, 1));
        Check.same("what was said stays", 2, x.say(6, 7, 0));
        Check.isThrown("the link closed again", STATE, x, () -> x.say(7, 6, 1));
        Check.same("what was said stays", 0, x.say(6, 7, 2));
        Check.same("groups", "127 16256", Made.groups(x));
    }

    private static void promise16To18Groups() {
        ChangeUntangler x = Made.apart(4);
        Check.same("groups", 4, x.groupCount());
        x.say(1, 3, 1);
        Check.same("groups", 3, x.groupCount());
        Check.same("group", 1, x.group(0));
        Check.same("group", 10, x.group(1));
        Check.same("group", 4, x.group(2));
        Check.same("group of a piece", 0, x.groupOf(0));
        Check.same("group of a piece", 1, x.groupOf(1));
        Check.same("group of a piece", 2, x.groupOf(2));
        Check.same("group of a piece", 1, x.groupOf(3));
        x.say(0, 1, 1);
        Check.same("group of a piece, a word later", 0, x.groupOf(3));
        x.say(0, 1, 0);
        for (int group : new int[] {-1, 3, 4, 14, 32, Integer.MAX_VALUE, Integer.MIN_VALUE}) {
            Check.isThrown("group that is none", INDEX, x, () -> x.group(group));
        }
        for (int piece : new int[] {-1, 4, 14, 32, Integer.MAX_VALUE, Integer.MIN_VALUE}) {
            Check.isThrown("groupOf no piece", INDEX, x, () -> x.groupOf(piece));
        }
        ChangeUntangler y = new ChangeUntangler();
        Check.isThrown("group of an empty one", INDEX, y, () -> y.group(0));
        y.addPiece(0, 0, 0, 0);
        y.addPiece(0, 0, 0, 0);
        Check.same("groups", 2, y.groupCount());
        y.setWeight(0, 12);
        Check.same("groups, a weight later", 1, y.groupCount());
        y.addPiece(0, 5, 0, 0);
        Check.same("groups, a piece later", "7", Made.groups(y));
        y.setSpan(4);
        Check.same("groups, a span later", "3 4", Made.groups(y));
        y.setNames(2, DEFINES, 1);
        y.setNames(1, USES, 1);
        y.setThreshold(7);
        Check.same("groups, names later", "1 6", Made.groups(y));
    }

    private static void promise16ForbiddenGroups() {
        ChangeUntangler x = new ChangeUntangler();
        for (int k = 0; k < 4; k++) {
            x.addPiece(0, k, 0, 0);
        }
        x.setWeight(0, 20);
        Check.same("all are near", "15", Made.groups(x));
        x.say(3, 0, 2);
        Check.same("one that must not be with one of a group", "7 8", Made.groups(x));
        x.say(1, 2, 2);
        Check.same("two pairs that must not", "3 12", Made.groups(x));
        x.say(0, 1, 2);
        Check.same("three pairs that must not", "5 10", Made.groups(x));
        x.setThreshold(21);
        x.say(0, 2, 1);
        Check.same("MUST needs no linkage", "5 2 8", Made.groups(x));
    }

    private static void promise16SeveralPairs() {
        ChangeUntangler x = new ChangeUntangler();
        for (int k = 0; k < 4; k++) {
            x.addPiece(0, 20 * k, 0, 0);
        }
        x.setThreshold(6);
        x.setManner(2);
        Check.same("of several the first pair", "3 12", Made.groups(x));
        x.say(0, 1, 2);
        Check.same("of several the first pair", "1 6 8", Made.groups(x));
        ChangeUntangler y = new ChangeUntangler();
        y.addPiece(0, 20, 0, 0);
        y.addPiece(0, 0, 0, 0);
        y.addPiece(0, 40, 0, 0);
        y.setThreshold(6);
        y.setManner(2);
        Check.same("then the first second one", "3 4", Made.groups(y));
        y.setNames(0, DEFINES, 1);
        y.setNames(2, USES, 1);
        Check.same("the greatest comes first", "5 2", Made.groups(y));
    }

    private static void promise19Linkage() {
        ChangeUntangler x = threePieces();
        Check.same("linkage", 10, x.linkage(0, 1));
        Check.same("linkage from the other side", 10, x.linkage(1, 0));
        x.say(1, 2, 2);
        Check.same("linkage of those that must not", 10, x.linkage(0, 1));
        for (int group : new int[] {-1, 2, 14, 32, Integer.MAX_VALUE, Integer.MIN_VALUE}) {
            Check.isThrown("linkage of no group", INDEX, x, () -> x.linkage(group, 0));
            Check.isThrown("linkage of no group", INDEX, x, () -> x.linkage(0, group));
            Check.isThrown("no group comes first", INDEX, x, () -> x.linkage(group, group));
        }
        Check.isThrown("linkage of the same group", ARGUMENT, x, () -> x.linkage(1, 1));
        x.setNames(0, USES, 7);
        Check.same("linkage, names later", (5 + 3 + 6) / 2, x.linkage(0, 1));
    }

    private static void promise20LastLinkage() {
        ChangeUntangler x = threePieces();
        Check.same("joined by MUST alone", -1, x.lastLinkage());
        x.setThreshold(10);
        Check.same("joined", 10, x.lastLinkage());
        x.setManner(0);
        Check.same("joined", 15, x.lastLinkage());
        x.say(0, 1, 0);
        Check.same("joined last", "5 2", Made.groups(x));
        Check.same("joined last", 15, x.lastLinkage());
        x.setThreshold(6);
        Check.same("joined last", 6, x.lastLinkage());
        x.setThreshold(16);
        Check.same("joined no more", -1, x.lastLinkage());
        Check.same("a new object", -1, new ChangeUntangler().lastLinkage());
    }

    private static void promise21Needs() {
        ChangeUntangler x = Made.unrelated(3);
        Check.same("nothing to need", false, x.needs(0, 1));
        x.setNames(0, USES, 1);
        x.setNames(1, DEFINES, 1);
        Check.same("uses what the other defines", true, x.needs(0, 1));
        Check.same("not the other way", false, x.needs(1, 0));
        Check.same("not a third one", false, x.needs(0, 2));
        x.setName(0, true, 0);
        Check.same("uses what the code defines", false, x.needs(0, 1));
        x.setNames(1, DROPS, 2);
        x.setNames(0, REMOVES, 2);
        Check.same("removes what the other drops", true, x.needs(0, 1));
        Check.same("not the other way", false, x.needs(1, 0));
        x.setName(1, true, 0);
        Check.same("whether the code defines it or not", true, x.needs(0, 1));
        x.setNames(2, REMOVES, 4);
        x.setNames(1, DEFINES, 4);
        Check.same("defines what the other removes", true, x.needs(1, 2));
        Check.same("not the other way", false, x.needs(2, 1));
        x.setName(2, true, 3);
        Check.same("whether the code defines it or not", true, x.needs(1, 2));
        x.setNames(2, REMOVES, 0);
        Check.same("two that define need nothing", false, x.needs(1, 2));
        for (int piece : NOT_PIECES) {
            Check.isThrown("needs of no piece", INDEX, x, () -> x.needs(piece, 0));
            Check.isThrown("needs of no piece", INDEX, x, () -> x.needs(0, piece));
            Check.isThrown("no piece comes first", INDEX, x, () -> x.needs(piece, piece));
        }
        Check.isThrown("needs of the same piece", ARGUMENT, x, () -> x.needs(0, 0));
    }

    private static void promise22To24Parcels() {
        ChangeUntangler x = Made.unrelated(5);
        Check.same("parcels without needs", "1 2 4 8 16", Made.parcels(x));
        Made.need(x, 0, 3);
        Check.same("what is needed comes before", "2 4 8 1 16", Made.parcels(x));
        Check.same("parcel of a piece", 3, x.parcelOf(0));
        Check.same("parcel of a piece", 2, x.parcelOf(3));
        Made.need(x, 3, 4);
        Made.need(x, 4, 0);
        Check.same("a circle by way of others", "25 2 4", Made.parcels(x));
        Check.same("parcels", 3, x.parcelCount());
        Check.same("parcel of a piece", 0, x.parcelOf(4));
        Check.same("parcel of a piece", 1, x.parcelOf(1));
        x.setName(3, true, 0);
        Check.same("parcel of a piece, a name later", 4, x.parcelOf(3));
        Check.same("no need of what the code defines", "1 2 4 16 8", Made.parcels(x));
        for (int parcel : new int[] {-1, 5, 14, 32, Integer.MAX_VALUE, Integer.MIN_VALUE}) {
            Check.isThrown("parcel that is none", INDEX, x, () -> x.parcel(parcel));
        }
        for (int piece : new int[] {-1, 5, 14, 32, Integer.MAX_VALUE, Integer.MIN_VALUE}) {
            Check.isThrown("parcelOf no piece", INDEX, x, () -> x.parcelOf(piece));
        }
        Check.isThrown("parcel of an empty one", INDEX, () -> new ChangeUntangler().parcel(0));
    }

    private static void promise24OrderOfParcels() {
        ChangeUntangler x = Made.unrelated(6);
        Made.need(x, 1, 5);
        Made.need(x, 0, 1);
        x.say(0, 2, 1);
        Check.same("needs of any piece of a group", "8 16 32 2 5", Made.parcels(x));
        Made.need(x, 5, 2);
        Check.same("groups that need each other", "39 8 16", Made.parcels(x));
        x.say(3, 4, 1);
        Check.same("groups that need nothing", "39 24", Made.parcels(x));
        Made.need(x, 0, 4);
        Check.same("a circle that needs another group", "24 39", Made.parcels(x));
        ChangeUntangler y = Made.unrelated(14);
        for (int piece = 0; piece < 13; piece++) {
            Made.need(y, piece, piece + 1);
        }
        Check.same("a long chain", "8192 4096 2048 1024 512 256 128 64 32 16 8 4 2 1", Made.parcels(y));
        Made.need(y, 13, 0);
        Check.same("a long circle", "16383", Made.parcels(y));
    }

    private static void promise25Knots() {
        ChangeUntangler x = Made.unrelated(6);
        Check.same("knots without needs", 0, x.knots());
        Made.need(x, 0, 5);
        Made.need(x, 5, 0);
        Check.same("a knot", 1, x.knots());
        Made.need(x, 1, 2);
        Made.need(x, 2, 3);
        Made.need(x, 3, 1);
        Check.same("two knots", 2, x.knots());
        x.say(0, 5, 1);
        Check.same("a group is no knot", 1, x.knots());
        Check.same("parcels", "33 14 16", Made.parcels(x));
        Check.same("a new object", 0, new ChangeUntangler().knots());
    }

    private static void promise26Lines() {
        ChangeUntangler x = new ChangeUntangler();
        x.addPiece(0, 0, 999, 998);
        x.addPiece(1, 0, 5, 0);
        x.addPiece(2, 0, 0, 7);
        x.say(0, 2, 1);
        Check.same("lines", 999 + 998 + 7, x.lines(0));
        Check.same("lines", 5, x.lines(1));
        for (int parcel : new int[] {-1, 2, 14, 32, Integer.MAX_VALUE, Integer.MIN_VALUE}) {
            Check.isThrown("lines of no parcel", INDEX, x, () -> x.lines(parcel));
        }
    }

    private static void promise27Broken() {
        ChangeUntangler x = Made.unrelated(4);
        x.setNames(0, DEFINES, 1);
        x.setNames(1, DEFINES, 1);
        x.setNames(2, REMOVES, 1);
        x.setNames(3, USES, 1);
        Check.same("nothing applied", 0, x.broken(0));
        Check.same("one definition", 0, x.broken(1));
        Check.same("two definitions", 1, x.broken(3));
        Check.same("two definitions and a removal", 0, x.broken(7));
        Check.same("a use without a definition", 1, x.broken(8));
        Check.same("a use with one", 0, x.broken(9));
        Check.same("a removal too many, unused", 0, x.broken(4));
        Check.same("a removal too many, used", 1, x.broken(12));
        Check.same("a removal against a definition, used", 1, x.broken(13));
        x.setName(0, true, 0);
        Check.same("the code's definition and one", 1, x.broken(1));
        Check.same("the code's definition and a use", 0, x.broken(8));
        x.setName(0, false, 1);
        Check.same("a use of other code", 1, x.broken(0));
        x.setNames(3, USES, 0);
        x.setNames(3, DROPS, 1);
        Check.same("a use of other code dropped", 0, x.broken(8));
        x.setName(0, false, 0);
        x.setNames(2, USES, 1);
        Check.same("fewer uses than none are made up for", 0, x.broken(12));
        x.setName(15, false, 9);
        x.setNames(0, USES, 1 << 14);
        Check.same("several names", 1 << 15 | 1 << 14, x.broken(1));
        for (int set : new int[] {16, -1, 1 << 14, 1 << 31, 31, Integer.MAX_VALUE}) {
            Check.isThrown("broken by no pieces", ARGUMENT, x, () -> x.broken(set));
        }
        ChangeUntangler y = Made.apart(14);
        Check.same("all pieces", 0, y.broken(16383));
        Check.isThrown("broken by no pieces", ARGUMENT, y, () -> y.broken(16384));
        Check.isThrown("broken by no pieces", ARGUMENT, () -> new ChangeUntangler().broken(1));
        Check.same("no pieces", 0, new ChangeUntangler().broken(0));
    }

    private static void promise28Breakage() {
        Check.same("a new object", 0, new ChangeUntangler().breakage());
        ChangeUntangler x = Made.unrelated(3);
        x.setName(0, true, 1);
        x.setName(1, false, 1);
        x.setNames(0, REMOVES, 1);
        x.setNames(1, DEFINES, 2);
        x.setNames(2, DEFINES, 1);
        Check.same("names broken: 2, then 1, then none", 3, x.breakage());
        x.setName(2, false, 1);
        Check.same("one more in each", 6, x.breakage());
        x.say(0, 1, 1);
        Check.same("parcels: 2 broken, then 1", 3, x.breakage());
        ChangeUntangler y = Made.unrelated(3);
        Made.need(y, 0, 1);
        y.setName(8, false, 3);
        y.setNames(0, DEFINES, 1 << 8);
        Check.same("parcels", "2 1 4", Made.parcels(y));
        Check.same("only what has been applied counts", 1, y.breakage());
    }

    private static void promise29And30Best() {
        ChangeUntangler x = new ChangeUntangler();
        Check.same("least of none", 0, x.leastBreakage());
        Check.isThrown("best of none", INDEX, x, () -> x.best(0));
        ChangeUntangler y = Made.unrelated(4);
        Check.same("of several orders the first", "0123", Made.bestOrder(y));
        Check.same("least", 0, y.leastBreakage());
        y.setName(5, false, 2);
        y.setNames(3, DEFINES, 1 << 5);
        Check.same("breakage", 3, y.breakage());
        Check.same("least", 0, y.leastBreakage());
        Check.same("the last one first", "3012", Made.bestOrder(y));
        y.setName(6, true, 1);
        y.setNames(3, REMOVES, 1 << 6);
        Check.same("least", 4, y.leastBreakage());
        Check.same("as good one way as the other", "0123", Made.bestOrder(y));
        y.setNames(1, DROPS, 1 << 6);
        Check.same("parcels", "1 2 4 8", Made.parcels(y));
        Check.same("least", 1, y.leastBreakage());
        Check.same("one ahead of it", "1302", Made.bestOrder(y));
        for (int place : new int[] {-1, 4, 9, 32, Integer.MAX_VALUE, Integer.MIN_VALUE}) {
            Check.isThrown("no place", INDEX, y, () -> y.best(place));
        }
        Check.same("only what has been applied counts", "120", Made.bestOrder(firstPieceLast()));
        Check.same("only what has been applied counts", 1, firstPieceLast().leastBreakage());
        ChangeUntangler z = Made.unrelated(3);
        z.setName(1, true, 0);
        z.setName(0, false, 0);
        z.setNames(0, REMOVES, 2);
        z.setNames(0, USES, 0);
        z.setNames(1, DEFINES, 2);
        z.setNames(1, USES, 4);
        z.setNames(2, DEFINES, 4);
        Check.same("parcels", "1 4 2", Made.parcels(z));
        Check.same("best is told by parcels", "012", Made.bestOrder(z));
        z.setName(2, true, 0);
        Check.same("parcels", "1 2 4", Made.parcels(z));
        Check.same("the least breakage is not none", 1, z.leastBreakage());
        Check.same("breakage", 1, z.breakage());
    }

    /** Piece 0 defines once more what the code defines. */
    private static ChangeUntangler firstPieceLast() {
        ChangeUntangler x = Made.unrelated(3);
        x.setName(3, true, 0);
        x.setNames(0, DEFINES, 1 << 3);
        return x;
    }

    private static void promise29And30TooManyParcels() {
        ChangeUntangler x = Made.unrelated(10);
        Check.isThrown("leastBreakage of ten", STATE, x, () -> x.leastBreakage());
        Check.isThrown("best of ten", STATE, x, () -> x.best(0));
        Check.isThrown("too many comes first", STATE, x, () -> x.best(10));
        Check.isThrown("too many comes first", STATE, x, () -> x.best(-1));
        x.say(0, 9, 1);
        Check.same("nine parcels", 9, x.parcelCount());
        x.setName(15, false, 1);
        x.setNames(8, DEFINES, 1 << 15);
        Check.same("least of nine", 0, x.leastBreakage());
        Check.same("best of nine", "801234567", Made.bestOrder(x));
        Check.isThrown("no tenth place", INDEX, x, () -> x.best(9));
        x.say(0, 9, 0);
        Check.isThrown("best of ten", STATE, () -> x.best(0));
        x.dropPiece();
        Check.same("least of nine without asking for parcels", 0, x.leastBreakage());
        x.addPiece(9, 9, 9, 9);
        Check.isThrown("leastBreakage of ten", STATE, x, () -> x.leastBreakage());
    }

    private static void promise31SetPurpose() {
        ChangeUntangler x = Made.apart(3);
        Check.same("purpose before", 0, x.setPurpose(2, 9));
        Check.same("purpose before", 9, x.setPurpose(2, 1));
        Check.same("purpose of another", 0, x.setPurpose(1, 0));
        for (int piece : NOT_PIECES) {
            Check.isThrown("setPurpose of no piece", INDEX, x, () -> x.setPurpose(piece, 0));
            Check.isThrown("no piece comes first", INDEX, x, () -> x.setPurpose(piece, 10));
        }
        for (int purpose : new int[] {-1, 10, Integer.MAX_VALUE, Integer.MIN_VALUE}) {
            Check.isThrown("setPurpose of none", ARGUMENT, x, () -> x.setPurpose(0, purpose));
        }
    }

    private static void promise32Agreement() {
        Check.same("no pieces", 1.0, new ChangeUntangler().agreement());
        Check.same("one piece", 1.0, Made.apart(1).agreement());
        ChangeUntangler x = Made.apart(3);
        Check.same("apart, of one purpose", 0.0, x.agreement());
        x.setPurpose(0, 1);
        Check.same("apart, two of another purpose", 2.0 / 3.0, x.agreement());
        x.say(1, 2, 1);
        Check.same("all as the judge sees it", 1.0, x.agreement());
        x.setPurpose(1, 1);
        Check.same("a pair apart, a pair together", 1.0 / 3.0, x.agreement());
        x.dropPiece();
        Check.same("one pair", 0.0, x.agreement());
    }

    private static void promise33Digest() {
        long d = 173;
        ChangeUntangler x = new ChangeUntangler();
        int[] first = {0, 6, 5, 8, 10, 20, 12, 1};
        for (int k : first) {
            d = d * 31 + k;
        }
        for (int k = 0; k < 32; k++) {
            d = d * 31;
        }
        d = d * 31 * 31 * 31;
        Check.same("digest of a new object", d, x.digest());

        x.addPiece(3, 77, 12, 8);
        x.addPiece(3, 78, 1, 0);
        x.setNames(0, DEFINES, 1);
        x.setNames(0, REMOVES, 2);
        x.setNames(0, USES, 4);
        x.setNames(0, DROPS, 8);
        x.setPurpose(0, 7);
        x.setName(1, true, 5);
        x.setName(5, false, 1);
        int[] numbers = {
            2, 3, 77, 12, 8, 1, 2, 4, 8, 7, 3, 78, 1, 0, 0, 0, 0, 0, 0, 6, 5, 8, 10, 20, 12, 1,
            0, 0, 1, 5, 0, 0, 0, 0, 0, 0, 0, 1, 0, 0, 0, 0, 0, 0, 0, 0, 0, 0, 0, 0, 0, 0, 0, 0, 0, 0, 0, 0,
            2, 1, 2, 2, 1, 2, 6,
        };
        d = 173;
        for (int k : numbers) {
            d = d * 31 + k;
        }
        Check.same("names broken", 1 << 5 | 1 << 2 | 1 << 1, x.broken(1));
        Check.same("digest", d, x.digest());
    }

    private static void promise33DigestOfEach() {
        ChangeUntangler x = Made.unrelated(3);
        long before = x.digest();
        x.setPurpose(1, 3);
        Check.same("a purpose counts", true, before != x.digest());
        x.setPurpose(1, 0);
        Check.same("the digest as before", before, x.digest());
        x.setManner(2);
        Check.same("the manner counts", true, before != x.digest());
        x.setManner(1);
        x.say(0, 1, 2);
        Check.same("what is said does not count by itself", before, x.digest());
        x.say(0, 1, 1);
        Check.same("groups count", true, before != x.digest());
    }
}
