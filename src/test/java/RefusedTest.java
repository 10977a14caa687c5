import java.util.ArrayList;
import java.util.List;

/**
 * "A method that throws an exception changes nothing": after each kind of refused call the object answers everything
 * as one on which that call was never made. "If several exceptions apply, the one that is named first is thrown."
 */
public final class RefusedTest {
    private static final Class<IllegalArgumentException> ARGUMENT = IllegalArgumentException.class;
    private static final Class<IllegalStateException> STATE = IllegalStateException.class;
    private static final Class<IndexOutOfBoundsException> INDEX = IndexOutOfBoundsException.class;

    private static final int LEAST = Integer.MIN_VALUE;
    private static final int GREATEST = Integer.MAX_VALUE;

    interface Start {
        ChangeUntangler make();
    }

    interface Call {
        long on(ChangeUntangler x);
    }

    private static final class Refusal {
        final String what;
        final Class<? extends RuntimeException> due;
        final Call call;

        Refusal(String what, Class<? extends RuntimeException> due, Call call) {
            this.what = what;
            this.due = due;
            this.call = call;
        }
    }

    private final String name;
    private final Start start;
    private final int pieces;
    private final List<Refusal> refusals = new ArrayList<>();

    private RefusedTest(String name, Start start) {
        this.name = name;
        this.start = start;
        pieces = start.make().pieceCount();
        ofPieces();
        ofSettings();
        ofPairs();
        ofSayings();
        ofGroups();
        ofParcels();
        ofSeveralReasons();
    }

    public static void main(String[] args) {
        new RefusedTest("no piece", () -> new ChangeUntangler()).ofNoPiece().play();
        new RefusedTest("one piece", () -> Made.apart(1)).play();
        new RefusedTest("some pieces", () -> some()).ofContradictions().play();
        new RefusedTest("some in another state", () -> someOthers()).play();
        new RefusedTest("ten parcels", () -> Made.unrelated(10)).ofTooManyParcels().play();
        new RefusedTest("14 pieces", () -> full()).ofTooManyPieces().ofTooManyParcels().ofLongWays().play();
        new RefusedTest("14 pieces, one group", () -> chained()).ofTooManyPieces().ofLongWays().play();
        Check.end();
    }

    /** Three groups in two parcels, one of them a knot; nothing is as it was at first. */
    private static ChangeUntangler some() {
        ChangeUntangler x = new ChangeUntangler();
        for (int k = 0; k < 5; k++) {
            x.addPiece(k % 2, 30 * k, 10 * k, k);
            x.setNames(k, 0, 1 << k);
            x.setNames(k, 2, 1 << (k + 3) % 5);
            x.setPurpose(k, k % 3);
        }
        x.setNames(3, 1, 1 << 9);
        x.setNames(4, 3, 1 << 9);
        x.setName(9, true, 2);
        x.setName(0, true, 0);
        x.setName(3, true, 1);
        x.setWeight(0, 7);
        x.setWeight(3, 9);
        x.setSpan(60);
        x.setThreshold(30);
        x.setManner(2);
        x.say(0, 1, 1);
        x.say(2, 1, 1);
        x.say(3, 0, 2);
        return x;
    }

    /** Two pieces are joined by linkage, and three groups that need each other are a knot. */
    private static ChangeUntangler someOthers() {
        ChangeUntangler x = Made.unrelated(6);
        x.setWeight(1, 6);
        x.setThreshold(11);
        x.setManner(0);
        Made.need(x, 0, 4);
        Made.need(x, 4, 1);
        Made.need(x, 1, 0);
        Made.need(x, 2, 3);
        x.setNames(3, 2, 4);
        x.setNames(2, 0, 4);
        x.setName(12, false, 9);
        x.say(5, 0, 2);
        return x;
    }

    private static ChangeUntangler full() {
        ChangeUntangler x = Made.unrelated(14);
        for (int k = 0; k < 14; k++) {
            x.setNames(k, k % 4, 1 << k | 1 << (k + 1) % 16);
            x.setPurpose(k, k % 10);
        }
        x.say(0, 13, 2);
        x.say(12, 13, 1);
        x.say(0, 1, 1);
        return x;
    }

    private static ChangeUntangler chained() {
        ChangeUntangler x = Made.apart(14);
        for (int k = 0; k < 13; k++) {
            x.say(k, k + 1, 1);
        }
        return x;
    }

    private void add(String what, Class<? extends RuntimeException> due, Call call) {
        refusals.add(new Refusal(name + ": " + what, due, call));
    }

    private void play() {
        for (Refusal refusal : refusals) {
            play(refusal, false);
            play(refusal, true);
        }
    }

    private void play(Refusal refusal, boolean isAskedBefore) {
        ChangeUntangler x = start.make();
        ChangeUntangler twin = start.make();
        if (isAskedBefore) {
            x.digest();
            if (x.parcelCount() <= 9) {
                x.leastBreakage();
            }
        }
        Check.isThrown(refusal.what, refusal.due, () -> refusal.call.on(x));
        Check.isThrown(refusal.what + " once more", refusal.due, () -> refusal.call.on(x));
        Check.same("all answers after " + refusal.what, Answers.of(twin), Answers.of(x));
        Check.same("going on after " + refusal.what, goOn(twin), goOn(x));
    }

    /** What is left over of a refused call may come to light only with other pieces. */
    private static String goOn(ChangeUntangler x) {
        StringBuilder text = new StringBuilder();
        if (x.pieceCount() > 0) {
            text.append(x.dropPiece()).append(' ');
        }
        int piece = x.addPiece(2, 31, 8, 9);
        text.append(piece).append(' ').append(x.setPurpose(piece, 1));
        for (int what = 0; what < 4; what++) {
            text.append(' ').append(x.names(piece, what));
        }
        for (int other = 0; other < piece; other++) {
            text.append(' ').append(x.say(piece, other, 0));
        }
        return text.append(' ').append(x.broken((1 << x.pieceCount()) - 1)).append(' ').append(x.digest()).toString();
    }

    private void ofPieces() {
        for (int wrong : new int[] {-1, LEAST, GREATEST}) {
            add("addPiece in no file", ARGUMENT, x -> x.addPiece(wrong, 0, 0, 0));
            add("addPiece at no line", ARGUMENT, x -> x.addPiece(0, wrong, 0, 0));
            add("addPiece that adds what is no number", ARGUMENT, x -> x.addPiece(0, 0, wrong, 0));
            add("addPiece that takes what is no number", ARGUMENT, x -> x.addPiece(0, 0, 0, wrong));
        }
        add("addPiece in file 10", ARGUMENT, x -> x.addPiece(10, 9999, 999, 999));
        add("addPiece at line 10000", ARGUMENT, x -> x.addPiece(9, 10000, 999, 999));
        add("addPiece that adds 1000", ARGUMENT, x -> x.addPiece(9, 9999, 1000, 999));
        add("addPiece that takes 1000", ARGUMENT, x -> x.addPiece(9, 9999, 999, 1000));
        for (int none : new int[] {-1, pieces, LEAST, GREATEST}) {
            add("setNames of no piece", INDEX, x -> x.setNames(none, 0, 1));
            add("names of no piece", INDEX, x -> x.names(none, 0));
            add("closest of no piece", INDEX, x -> x.closest(none));
            add("setPurpose of no piece", INDEX, x -> x.setPurpose(none, 1));
        }
        if (pieces > 0) {
            add("setNames of set -1", INDEX, x -> x.setNames(0, -1, 1));
            add("setNames of set 4", INDEX, x -> x.setNames(0, 4, 1));
            add("setNames, names -1", ARGUMENT, x -> x.setNames(0, 0, -1));
            add("setNames, names 65536", ARGUMENT, x -> x.setNames(0, 3, 65536));
            add("names of set -1", INDEX, x -> x.names(0, -1));
            add("names of set 4", INDEX, x -> x.names(0, 4));
            add("setPurpose -1", ARGUMENT, x -> x.setPurpose(0, -1));
            add("setPurpose 10", ARGUMENT, x -> x.setPurpose(0, 10));
        }
    }

    private void ofSettings() {
        add("setName of name -1", INDEX, x -> x.setName(-1, true, 1) ? 1 : 0);
        add("setName of name 16", INDEX, x -> x.setName(16, true, 1) ? 1 : 0);
        add("setName, uses -1", ARGUMENT, x -> x.setName(0, true, -1) ? 1 : 0);
        add("setName, uses 10", ARGUMENT, x -> x.setName(15, true, 10) ? 1 : 0);
        add("setName, uses 10, of another definition", ARGUMENT, x -> x.setName(3, false, 10) ? 1 : 0);
        add("setWeight of kind -1", INDEX, x -> x.setWeight(-1, 1));
        add("setWeight of kind 4", INDEX, x -> x.setWeight(4, 1));
        add("setWeight -1", ARGUMENT, x -> x.setWeight(0, -1));
        add("setWeight 51", ARGUMENT, x -> x.setWeight(3, 51));
        add("setSpan -1", ARGUMENT, x -> x.setSpan(-1));
        add("setSpan 1000", ARGUMENT, x -> x.setSpan(1000));
        add("setThreshold 0", ARGUMENT, x -> x.setThreshold(0));
        add("setThreshold 1000", ARGUMENT, x -> x.setThreshold(1000));
        add("setManner -1", ARGUMENT, x -> x.setManner(-1));
        add("setManner 3", ARGUMENT, x -> x.setManner(3));
        add("broken by a piece too many", ARGUMENT, x -> x.broken(1 << pieces));
        add("broken by -1", ARGUMENT, x -> x.broken(-1));
    }

    private void ofPairs() {
        for (int none : new int[] {-1, pieces, LEAST, GREATEST}) {
            add("points of no piece a", INDEX, x -> x.points(none, 0, 0));
            add("points of no piece b", INDEX, x -> x.points(0, none, 0));
            add("affinity of no piece a", INDEX, x -> x.affinity(none, 0));
            add("affinity of no piece b", INDEX, x -> x.affinity(0, none));
            add("needs of no piece a", INDEX, x -> x.needs(none, 0) ? 1 : 0);
            add("needs of no piece b", INDEX, x -> x.needs(0, none) ? 1 : 0);
        }
        if (pieces > 0) {
            add("points of the same piece", ARGUMENT, x -> x.points(pieces - 1, pieces - 1, 0));
            add("affinity of the same piece", ARGUMENT, x -> x.affinity(pieces - 1, pieces - 1));
            add("needs of the same piece", ARGUMENT, x -> x.needs(pieces - 1, pieces - 1) ? 1 : 0);
        }
        if (pieces > 1) {
            add("points of kind -1", INDEX, x -> x.points(0, 1, -1));
            add("points of kind 4", INDEX, x -> x.points(0, 1, 4));
        }
    }

    private void ofSayings() {
        for (int what = 0; what <= 2; what++) {
            int said = what;
            for (int none : new int[] {-1, pieces, LEAST, GREATEST}) {
                add("say " + what + " of no piece a", INDEX, x -> x.say(none, 0, said));
                add("say " + what + " of no piece b", INDEX, x -> x.say(0, none, said));
            }
            if (pieces > 0) {
                add("say " + what + " of the same piece", ARGUMENT, x -> x.say(0, 0, said));
            }
        }
        if (pieces > 1) {
            add("say -1", ARGUMENT, x -> x.say(0, 1, -1));
            add("say 3", ARGUMENT, x -> x.say(0, 1, 3));
        }
    }

    private void ofGroups() {
        int count = start.make().groupCount();
        for (int none : new int[] {-1, count, LEAST, GREATEST}) {
            add("group that is none", INDEX, x -> x.group(none));
            add("linkage of no group a", INDEX, x -> x.linkage(none, 0));
            add("linkage of no group b", INDEX, x -> x.linkage(0, none));
        }
        for (int none : new int[] {-1, pieces, LEAST, GREATEST}) {
            add("groupOf no piece", INDEX, x -> x.groupOf(none));
        }
        if (count > 0) {
            add("linkage of the same group", ARGUMENT, x -> x.linkage(count - 1, count - 1));
        }
    }

    private void ofParcels() {
        int count = start.make().parcelCount();
        for (int none : new int[] {-1, count, LEAST, GREATEST}) {
            add("parcel that is none", INDEX, x -> x.parcel(none));
            add("lines of no parcel", INDEX, x -> x.lines(none));
            if (count <= 9) {
                add("best at no place", INDEX, x -> x.best(none));
            }
        }
        for (int none : new int[] {-1, pieces, LEAST, GREATEST}) {
            add("parcelOf no piece", INDEX, x -> x.parcelOf(none));
        }
    }

    /** Calls to which several exceptions apply: what is due is the one that the document names first. */
    private void ofSeveralReasons() {
        for (int none : new int[] {-1, pieces, LEAST, GREATEST}) {
            add("setNames of no piece, no names", INDEX, x -> x.setNames(none, 0, -1));
            add("setNames of no piece, no set, no names", INDEX, x -> x.setNames(none, 4, 65536));
            add("points of the same, no piece", INDEX, x -> x.points(none, none, 0));
            add("points of the same, no piece, no kind", INDEX, x -> x.points(none, none, 4));
            add("affinity of the same, no piece", INDEX, x -> x.affinity(none, none));
            add("say of the same, no piece", INDEX, x -> x.say(none, none, 1));
            add("say of the same, no piece, nothing to say", INDEX, x -> x.say(none, none, 3));
            add("say of no piece a, nothing to say", INDEX, x -> x.say(none, 0, 3));
            add("say of no piece b, nothing to say", INDEX, x -> x.say(0, none, -1));
            add("needs of the same, no piece", INDEX, x -> x.needs(none, none) ? 1 : 0);
            add("setPurpose of no piece, no purpose", INDEX, x -> x.setPurpose(none, 10));
            add("setPurpose of no piece, no purpose", INDEX, x -> x.setPurpose(none, -1));
        }
        add("setName of no name, no uses", INDEX, x -> x.setName(16, true, 10) ? 1 : 0);
        add("setName of no name, no uses", INDEX, x -> x.setName(-1, true, -1) ? 1 : 0);
        add("setWeight of no kind, no weight", INDEX, x -> x.setWeight(4, 51));
        add("setWeight of no kind, no weight", INDEX, x -> x.setWeight(-1, -1));
        int groups = start.make().groupCount();
        for (int none : new int[] {-1, groups, LEAST, GREATEST}) {
            add("linkage of the same, no group", INDEX, x -> x.linkage(none, none));
        }
        if (pieces > 0) {
            add("setNames of no set, no names", INDEX, x -> x.setNames(0, 4, 65536));
            add("setNames of no set, no names", INDEX, x -> x.setNames(0, -1, -1));
            add("points of the same piece, no kind", INDEX, x -> x.points(0, 0, 4));
            add("points of the same piece, no kind", INDEX, x -> x.points(0, 0, -1));
            // a piece is joined with itself, so it cannot be said either that it must not be
            add("say 2 of the same piece", ARGUMENT, x -> x.say(pieces - 1, pieces - 1, 2));
            add("say of the same piece, nothing to say", ARGUMENT, x -> x.say(0, 0, 3));
        }
    }

    private RefusedTest ofNoPiece() {
        add("dropPiece of none", STATE, x -> x.dropPiece());
        return this;
    }

    /** Pieces 0, 1, 2 must be together; 3 must not be with 0. */
    private RefusedTest ofContradictions() {
        add("say 2 by way of another", STATE, x -> x.say(0, 2, 2));
        add("say 2 by way of another", STATE, x -> x.say(2, 0, 2));
        add("say 1 by way of one", STATE, x -> x.say(1, 3, 1));
        add("say 1 by way of two", STATE, x -> x.say(3, 2, 1));
        add("say 3 where 2 would be a contradiction", ARGUMENT, x -> x.say(0, 2, 3));
        return this;
    }

    private RefusedTest ofTooManyPieces() {
        add("addPiece of a 15th", STATE, x -> x.addPiece(0, 0, 0, 0));
        add("addPiece of a 15th", STATE, x -> x.addPiece(9, 9999, 999, 999));
        return this;
    }

    private RefusedTest ofTooManyParcels() {
        add("leastBreakage of too many", STATE, x -> x.leastBreakage());
        for (int place : new int[] {0, 8, 9, 13}) {
            add("best of too many", STATE, x -> x.best(place));
        }
        for (int place : new int[] {-1, 10, 14, LEAST, GREATEST}) {
            add("best of too many, no place", STATE, x -> x.best(place));
        }
        return this;
    }

    /** In both objects with 14 pieces, 0 and 1 must be together, and so must 12 and 13. */
    private RefusedTest ofLongWays() {
        if (start.make().groupCount() == 1) {
            add("say 2 of the ends of a chain", STATE, x -> x.say(0, 13, 2));
            add("say 2 of the ends of a chain", STATE, x -> x.say(13, 0, 2));
            return this;
        }
        add("say 1 by way of one on both sides", STATE, x -> x.say(1, 12, 1));
        add("say 1 by way of one on both sides", STATE, x -> x.say(12, 1, 1));
        add("say 1 by way of one", STATE, x -> x.say(0, 12, 1));
        return this;
    }
}
