import java.math.BigInteger;

/**
 * The sentences of the document that name an edge other than a parameter's range (see RangeTest) or a refused call (see
 * RefusedTest), in the document's order: empty, full, just enough, one too few, rounded, of several the first.
 */
public final class EdgeTest {
    private static final Class<IllegalArgumentException> ARGUMENT = IllegalArgumentException.class;
    private static final Class<IllegalStateException> STATE = IllegalStateException.class;
    private static final Class<IndexOutOfBoundsException> INDEX = IndexOutOfBoundsException.class;

    private static final int EVERY_NAME = 65535;

    private static final int DEFINES = 0;
    private static final int REMOVES = 1;
    private static final int USES = 2;
    private static final int DROPS = 3;

    private static final int NEAR = 0;
    private static final int FLOW = 1;
    private static final int MOVE = 2;
    private static final int ALIKE = 3;

    public static void main(String[] args) {
        usedFor512Calls();
        numberedInTheOrderOfCreation();
        setsAreSumsOfPowers();
        namesAtFirst();
        nearAtMostTheSpan();
        flowAndMoveForEachName();
        bothWaysCountTwice();
        alikeOfNone();
        alikeRoundedDown();
        affinityOfLeastAndGreatest();
        closestOfSeveral();
        joinedByWayOfOthers();
        linkageAtTheThreshold();
        averageJustBelowTheThreshold();
        greatestAndLeastOfManyPairs();
        ofSeveralPairsTheFirst();
        onePairThatMustNotIsEnough();
        whatWasSaidIsReplaced();
        sayByWayOfAll();
        dropForgetsWhatWasSaid();
        lastLinkageOfNone();
        needsOfNamesThatTheCodeDefines();
        circlesOfTwoAndOfAll();
        parcelsThatAreReady();
        knotsOfNoneAndSeven();
        linesOfNoneAndAll();
        moreThanOneDefinition();
        lessThanOneAndAtLeastOneUse();
        breakageOfNoneAndAll();
        fromOneParcelOn();
        bestOfNoneAndNineAndTen();
        bestOfSeveral();
        agreementWithoutPairs();
        agreementOfAllAndNone();
        digestWrapsAround();
        digestOfTheGreatest();
        Check.end();
    }

    /** No kind of evidence but this one, at weight 1. */
    private static ChangeUntangler only(int kind, int pieces) {
        ChangeUntangler x = Made.unrelated(pieces);
        x.setWeight(kind, 1);
        return x;
    }

    /** Sets all names of both pieces. */
    private static void set(ChangeUntangler x, int a, int namesOfA, int b, int namesOfB, int what, int opposite) {
        x.setNames(a, what, namesOfA);
        x.setNames(b, opposite, namesOfB);
    }

    // "An object is used for at most 512 calls after it has been made"
    private static void usedFor512Calls() {
        ChangeUntangler x = new ChangeUntangler();
        for (int k = 0; k < 14; k++) {
            x.addPiece(0, 0, 0, 0);
        }
        for (int call = 14; call < 509; call++) {
            x.setName(call % 16, call % 2 == 0, call % 10);
        }
        x.setThreshold(6);
        x.setThreshold(7);
        Check.same("the 512th call", 14, x.groupCount());
    }

    // "There are at most 14, numbered from 0 in the order of their creation"
    private static void numberedInTheOrderOfCreation() {
        ChangeUntangler x = new ChangeUntangler();
        for (int k = 0; k < 14; k++) {
            Check.same("number of a piece", k, x.addPiece(9 - k % 10, 9999 - k, 0, 0));
        }
        Check.isThrown("a 15th piece", STATE, x, () -> x.addPiece(0, 0, 0, 0));
        Check.same("dropPiece of 14", 13, x.dropPiece());
        Check.same("a 14th piece again", 13, x.addPiece(0, 0, 0, 0));
        Check.isThrown("a 15th piece", STATE, x, () -> x.addPiece(0, 0, 0, 0));
        for (int left = 13; left >= 0; left--) {
            Check.same("dropPiece", left, x.dropPiece());
            Check.same("pieceCount", left, x.pieceCount());
        }
        Check.isThrown("dropPiece of none", STATE, x, () -> x.dropPiece());
        Check.same("number of the first piece again", 0, x.addPiece(0, 0, 0, 0));
    }

    // "sets of pieces are told as the sum of the powers 2^k of their numbers k"; "sets of names are told in the same
    // way"
    private static void setsAreSumsOfPowers() {
        ChangeUntangler x = Made.unrelated(14);
        for (int k = 0; k < 14; k++) {
            Check.same("group of one piece", 1 << k, x.group(k));
            Check.same("parcel of one piece", 1 << k, x.parcel(k));
        }
        for (int name = 0; name < 16; name++) {
            x.setNames(13, USES, 1 << name);
            Check.same("a set of one name", 1 << name, x.names(13, USES));
            Check.same("a broken name", 1 << name, x.broken(1 << 13));
            x.setNames(13, USES, EVERY_NAME - (1 << name));
            Check.same("the broken names", EVERY_NAME - (1 << name), x.broken(1 << 13));
        }
    }

    // "it is known whether the code defines it without the change (not, at first), and how often other code uses it, 0
    // to 9 (0 at first)"
    private static void namesAtFirst() {
        for (int name = 0; name < 16; name++) {
            ChangeUntangler x = Made.apart(2);
            x.setNames(0, USES, 1 << name);
            Check.same("not defined at first", 1 << name, x.broken(1));
            x.setNames(1, DEFINES, 1 << name);
            Check.same("not defined at first", 0, x.broken(3));
            x.setNames(0, USES, 0);
            x.setNames(1, DEFINES, 0);
            x.setNames(1, REMOVES, 1 << name);
            Check.same("not used at first", 0, x.broken(2));
            Check.same("one of both is another one: the uses", true, x.setName(name, false, 1));
            Check.same("none of both is another one", false, x.setName(name, false, 1));
            Check.same("one of both is another one: the definition", true, x.setName(name, true, 1));
            Check.same("both are others", true, x.setName(name, false, 9));
        }
    }

    // "the weight of NEAR if they are in the same file, and their lines differ by at most the span"
    private static void nearAtMostTheSpan() {
        int[] spans = {0, 1, 20, 998, 999};
        for (int span : spans) {
            ChangeUntangler x = new ChangeUntangler();
            x.addPiece(3, 5000, 0, 0);
            x.addPiece(3, 5000 + span, 0, 0);
            x.addPiece(3, 5000 + span + 1, 0, 0);
            x.addPiece(3, 5000 - span, 0, 0);
            x.addPiece(3, 5000 - span - 1, 0, 0);
            x.addPiece(4, 5000, 0, 0);
            x.setSpan(span);
            int[] due = {0, 6, 0, 6, 0, 0};
            for (int k = 1; k < 6; k++) {
                Check.same("NEAR, span " + span, due[k], x.points(0, k, NEAR));
                Check.same("NEAR, span " + span, due[k], x.points(k, 0, NEAR));
            }
        }
        ChangeUntangler x = new ChangeUntangler();
        x.addPiece(0, 0, 999, 0);
        x.addPiece(0, 9999, 0, 999);
        x.addPiece(0, 9000, 0, 999);
        x.setSpan(999);
        Check.same("NEAR from the first line to the last", 0, x.points(0, 1, NEAR));
        Check.same("NEAR to the last line, the greatest span", 6, x.points(1, 2, NEAR));
    }

    // "the weight of FLOW for each name that one defines and the other one uses", "of MOVE .. removes .. defines"
    private static void flowAndMoveForEachName() {
        int[][] sets = {{FLOW, DEFINES, USES}, {MOVE, REMOVES, DEFINES}};
        for (int[] s : sets) {
            ChangeUntangler x = only(s[0], 14);
            Check.same("points for no name", 0, x.points(0, 13, s[0]));
            for (int names = 1; names <= 16; names++) {
                set(x, 0, (1 << names) - 1, 13, EVERY_NAME, s[1], s[2]);
                Check.same("points for " + names + " names", names, x.points(0, 13, s[0]));
                Check.same("points for " + names + " names", names, x.points(13, 0, s[0]));
            }
            x.setWeight(s[0], 50);
            Check.same("points of the greatest weight", 800, x.points(0, 13, s[0]));
            x.setWeight(s[0], 0);
            Check.same("points of the least weight", 0, x.points(0, 13, s[0]));
        }
    }

    // "(twice, if both are so)"
    private static void bothWaysCountTwice() {
        int[][] sets = {{FLOW, DEFINES, USES}, {MOVE, REMOVES, DEFINES}};
        for (int[] s : sets) {
            ChangeUntangler x = only(s[0], 2);
            set(x, 0, EVERY_NAME, 0, EVERY_NAME, s[1], s[2]);
            Check.same("nothing with a piece that has no names", 0, x.points(0, 1, s[0]));
            set(x, 1, 1 << 15, 1, 1, s[1], s[2]);
            Check.same("two names, once each", 2, x.points(0, 1, s[0]));
            set(x, 1, 1, 1, 1, s[1], s[2]);
            Check.same("one name, twice", 2, x.points(0, 1, s[0]));
            set(x, 1, EVERY_NAME, 1, EVERY_NAME, s[1], s[2]);
            Check.same("all names, twice", 32, x.points(1, 0, s[0]));
        }
    }

    // "the number of names that both have, divided by the number of names that at least one of them has .. (0 if there
    // are none)"
    private static void alikeOfNone() {
        ChangeUntangler x = Made.apart(2);
        x.setWeight(ALIKE, 50);
        Check.same("ALIKE without names", 0, x.points(0, 1, ALIKE));
        for (int what = 0; what < 4; what++) {
            x.setNames(0, what, 1 << what);
            Check.same("ALIKE with a piece without names", 0, x.points(0, 1, ALIKE));
            Check.same("ALIKE with a piece without names", 0, x.points(1, 0, ALIKE));
            x.setNames(1, 3 - what, 1 << what);
            Check.same("ALIKE of one name, whichever set it is in", 50, x.points(0, 1, ALIKE));
            x.setNames(0, what, 0);
            x.setNames(1, 3 - what, 0);
            Check.same("ALIKE without names again", 0, x.points(0, 1, ALIKE));
        }
    }

    // "rounded down"
    private static void alikeRoundedDown() {
        int[] due = {0, 3, 6, 9, 12, 15, 18, 21, 25, 28, 31, 34, 37, 40, 43, 46, 50};
        ChangeUntangler x = Made.apart(2);
        x.setWeight(ALIKE, 50);
        x.setNames(0, DROPS, EVERY_NAME);
        for (int names = 0; names <= 16; names++) {
            x.setNames(1, REMOVES, (1 << names) - 1);
            Check.same("ALIKE, " + names + " of 16", due[names], x.points(0, 1, ALIKE));
        }
        x.setWeight(ALIKE, 1);
        Check.same("ALIKE of weight 1, all names", 1, x.points(0, 1, ALIKE));
        x.setNames(1, REMOVES, EVERY_NAME - 1);
        Check.same("ALIKE of weight 1, all names but one", 0, x.points(0, 1, ALIKE));
    }

    // "Their affinity is the sum of these points."
    private static void affinityOfLeastAndGreatest() {
        ChangeUntangler x = new ChangeUntangler();
        x.addPiece(0, 0, 0, 0);
        x.addPiece(0, 0, 0, 0);
        for (int kind = 0; kind < 4; kind++) {
            x.setWeight(kind, 50);
            for (int piece = 0; piece < 2; piece++) {
                x.setNames(piece, kind, EVERY_NAME);
            }
        }
        Check.same("the greatest affinity", 50 + 1600 + 1600 + 50, x.affinity(0, 1));
        int[] without = {3250, 1700, 1700, 3250};
        for (int kind = 0; kind < 4; kind++) {
            x.setWeight(kind, 0);
            Check.same("affinity without a kind", without[kind], x.affinity(1, 0));
            x.setWeight(kind, 50);
        }
        for (int kind = 0; kind < 4; kind++) {
            x.setWeight(kind, 0);
        }
        Check.same("the least affinity", 0, x.affinity(0, 1));
    }

    // "the other piece with which it has the greatest affinity, of several the one with the smallest number; -1 if
    // there is no other one"
    private static void closestOfSeveral() {
        ChangeUntangler x = Made.unrelated(14);
        for (int piece = 0; piece < 14; piece++) {
            Check.same("closest of all at 0", piece == 0 ? 1 : 0, x.closest(piece));
        }
        x.setWeight(FLOW, 1);
        x.setNames(6, DEFINES, 7);
        x.setNames(13, USES, 3);
        x.setNames(12, USES, 3);
        Check.same("closest of two that are the greatest", 12, x.closest(6));
        x.setNames(13, USES, 7);
        Check.same("closest is the last one", 13, x.closest(6));
        x.setNames(0, USES, 7);
        Check.same("closest is the first one", 0, x.closest(6));
        x.setNames(6, USES, 7);
        Check.same("never the piece itself", 0, x.closest(6));
        for (int left = 13; left > 1; left--) {
            x.dropPiece();
        }
        Check.same("closest of two", 1, x.closest(0));
        Check.same("closest of two", 0, x.closest(1));
        x.dropPiece();
        Check.same("closest of a piece alone", -1, x.closest(0));
        x.dropPiece();
        Check.isThrown("closest without pieces", INDEX, x, () -> x.closest(0));
    }

    // "pieces are in the same group if they are joined by MUST, or by way of others"
    private static void joinedByWayOfOthers() {
        ChangeUntangler x = Made.unrelated(14);
        int[] way = {0, 13, 1, 12, 2, 11, 3, 10, 4, 9, 5, 8, 6, 7};
        for (int k = 1; k < 14; k++) {
            Check.same("groups", 15 - k, x.groupCount());
            x.say(way[k - 1], way[k], 1);
            Check.same("the ends of a long way", x.groupOf(way[0]), x.groupOf(way[k]));
        }
        Check.same("all in one group", 16383, x.group(0));
        Check.same("no linkage joined them", -1, x.lastLinkage());
        x.say(7, 6, 0);
        Check.same("the last of the way left out", "16255 128", Made.groups(x));
        x.say(0, 13, 0);
        Check.same("the first of the way left out", "1 16254 128", Made.groups(x));
    }

    // "that with the greatest linkage, if this is at least the threshold (12 at first)"
    private static void linkageAtTheThreshold() {
        ChangeUntangler x = new ChangeUntangler();
        x.addPiece(0, 0, 0, 0);
        x.addPiece(0, 0, 0, 0);
        x.setWeight(NEAR, 11);
        Check.same("linkage 11 at first", 2, x.groupCount());
        x.setWeight(NEAR, 12);
        Check.same("linkage 12 at first", 1, x.groupCount());
        x.setThreshold(13);
        Check.same("linkage 12, threshold 13", 2, x.groupCount());
        x.setThreshold(1);
        x.setWeight(NEAR, 1);
        Check.same("linkage 1, threshold 1", 1, x.groupCount());
        x.setWeight(NEAR, 0);
        for (int manner = 0; manner < 3; manner++) {
            x.setManner(manner);
            Check.same("linkage 0", 0, x.linkage(0, 1));
            Check.same("linkage 0, threshold 1", 2, x.groupCount());
        }
        x.setManner(1);
        x.setThreshold(999);
        x.setWeight(FLOW, 50);
        x.setWeight(ALIKE, 48);
        set(x, 0, EVERY_NAME, 1, EVERY_NAME, DEFINES, USES);
        set(x, 0, 7, 1, 7, USES, DEFINES);
        Check.same("affinity 998", 19 * 50 + 48, x.affinity(0, 1));
        Check.same("linkage 998, threshold 999", 2, x.groupCount());
        x.setWeight(ALIKE, 49);
        Check.same("linkage 999, threshold 999", 1, x.groupCount());
        Check.same("linkage 999", 999, x.lastLinkage());
    }

    // "the average, rounded down"
    private static void averageJustBelowTheThreshold() {
        ChangeUntangler x = only(FLOW, 4);
        x.setWeight(FLOW, 6);
        x.say(0, 1, 1);
        x.say(2, 3, 1);
        x.setNames(0, DEFINES, 3);
        x.setNames(2, USES, 3);
        x.setNames(3, USES, 3);
        x.setNames(1, DEFINES, 1);
        x.setWeight(NEAR, 50);
        int[] weights = {6, 7, 8, 9, 10};
        int[] due = {9, 10, 12, 13, 15};
        for (int k = 0; k < 5; k++) {
            x.setThreshold(999);
            x.setWeight(FLOW, weights[k]);
            Check.same("the average of four, rounded down", due[k], x.linkage(0, 1));
            x.setThreshold(due[k] + 1);
            Check.same("below the threshold", "3 12", Made.groups(x));
            x.setThreshold(due[k]);
            Check.same("at the threshold", "15", Made.groups(x));
            Check.same("by it they were joined", due[k], x.lastLinkage());
        }
    }

    // "by its manner 0 the greatest, 1 (at first) the average, rounded down, 2 the least affinity"
    private static void greatestAndLeastOfManyPairs() {
        ChangeUntangler x = Made.unrelated(14);
        for (int k = 0; k < 14; k++) {
            x.setNames(k, USES, 1 << k);
            if (k != 6 && k != 13) {
                x.say(k, k + 1, 1);
            }
        }
        x.setNames(6, DEFINES, 1 << 13);
        x.setWeight(FLOW, 49);
        x.setThreshold(999);
        Check.same("one of 49 pairs, the average at first", 1, x.linkage(0, 1));
        x.setWeight(FLOW, 48);
        Check.same("one of 49 pairs, rounded down", 0, x.linkage(1, 0));
        x.setManner(0);
        Check.same("the greatest of 49 pairs", 48, x.linkage(0, 1));
        x.setManner(2);
        Check.same("the least of 49 pairs", 0, x.linkage(0, 1));
        for (int k = 0; k < 14; k++) {
            x.setWeight(k % 4, 50);
            x.setNames(k, DEFINES, EVERY_NAME);
            x.setNames(k, USES, EVERY_NAME);
            x.setNames(k, REMOVES, EVERY_NAME);
        }
        x.say(0, 13, 2);
        for (int manner = 0; manner < 3; manner++) {
            x.setManner(manner);
            Check.same("49 pairs of the greatest affinity, but for NEAR", 3250, x.linkage(0, 1));
            Check.same("and still one must not be with one", 2, x.groupCount());
        }
        x.say(0, 13, 0);
        Check.same("until nothing is said of them", 3250, x.lastLinkage());
    }

    // "of several the pair whose first group comes first, then the one whose second group does (groups are ordered by
    // their smallest pieces)"
    private static void ofSeveralPairsTheFirst() {
        ChangeUntangler x = only(FLOW, 5);
        x.setThreshold(1);
        x.setManner(2);
        x.setNames(1, DEFINES, 1);
        x.setNames(3, USES, 3);
        x.setNames(4, USES, 3);
        Check.same("the first pair is joined, not the second", "1 10 4 16", Made.groups(x));
        x.setNames(0, DEFINES, 2);
        Check.same("the first group comes first", "9 18 4", Made.groups(x));
        x.say(0, 3, 2);
        Check.same("then the second group", "17 10 4", Made.groups(x));
        x.setNames(2, DEFINES, 12);
        x.setNames(3, USES, 15);
        Check.same("the greatest comes before the first", "17 2 12", Made.groups(x));
        x.setNames(2, DEFINES, 4);
        x.say(0, 2, 1);
        x.say(0, 3, 0);
        Check.same("a group's smallest piece counts, not its others", "13 18", Made.groups(x));
    }

    // "one of which has no piece that MUST NOT be with a piece of the other one"
    private static void onePairThatMustNotIsEnough() {
        for (int a = 0; a < 7; a += 3) {
            for (int b = 7; b < 14; b += 3) {
                ChangeUntangler x = new ChangeUntangler();
                for (int k = 0; k < 14; k++) {
                    x.addPiece(0, k, 0, 0);
                }
                for (int k = 0; k < 13; k++) {
                    x.say(k, k + 1, k == 6 ? 0 : 1);
                }
                x.setThreshold(6);
                Check.same("two groups are joined", 1, x.groupCount());
                x.say(b, a, 2);
                Check.same("but for one pair", "127 16256", Made.groups(x));
                Check.same("which is not looked at", 6, x.linkage(0, 1));
                Check.same("no groups were joined", -1, x.lastLinkage());
                x.say(a, b, 0);
                Check.same("two groups are joined again", 1, x.groupCount());
            }
        }
    }

    // "0 nothing is said, 1 they MUST be together, 2 they MUST NOT"; "Returns what was said of them before"
    private static void whatWasSaidIsReplaced() {
        for (int first = 0; first <= 2; first++) {
            for (int then = 0; then <= 2; then++) {
                ChangeUntangler x = Made.unrelated(14);
                Check.same("nothing is said at first", 0, x.say(13, 0, first));
                Check.same("said before", first, x.say(0, 13, then));
                Check.same("joined only if they must be", then == 1 ? 13 : 14, x.groupCount());
                Check.same("said before", then, x.say(13, 0, 0));
                Check.same("nothing is said of others", 0, x.say(12, 0, 0));
                Check.same("nothing is said of others", 0, x.say(13, 1, 0));
            }
        }
    }

    // "if then two pieces that MUST NOT be together would be joined by MUST, or by way of others"
    private static void sayByWayOfAll() {
        ChangeUntangler x = Made.apart(14);
        x.say(0, 1, 2);
        for (int k = 2; k < 14; k++) {
            x.say(k == 2 ? 0 : k - 1, k, 1);
        }
        Check.isThrown("the ends of a way by all others", STATE, x, () -> x.say(13, 1, 1));
        Check.isThrown("the ends of a way by one", STATE, x, () -> x.say(1, 2, 1));
        Check.isThrown("the way's ends", STATE, x, () -> x.say(13, 0, 2));
        Check.same("at once they may, as it is said instead", 2, x.say(1, 0, 1));
        Check.same("now the way may be closed", 0, x.say(13, 1, 1));
        Check.isThrown("in a ring the way round counts", STATE, x, () -> x.say(0, 1, 2));
        Check.same("the way round opened", 1, x.say(7, 8, 0));
        Check.same("no way is left", 1, x.say(0, 1, 2));
        Check.isThrown("the way round closed again", STATE, x, () -> x.say(8, 7, 1));
        Check.same("the two ends apart", 0, x.say(8, 7, 2));
    }

    // "Removes the piece that was added last, and what was said of it."
    private static void dropForgetsWhatWasSaid() {
        ChangeUntangler x = Made.unrelated(14);
        for (int k = 0; k < 13; k++) {
            x.say(13, k, 1);
        }
        Check.same("all together by way of the last", 1, x.groupCount());
        x.dropPiece();
        Check.same("no more", 13, x.groupCount());
        Check.same("so two of them may be apart", 0, x.say(0, 12, 2));
        x.addPiece(0, 0, 0, 0);
        Check.same("nothing is said of the next one", 14, x.groupCount());
        x.say(13, 0, 1);
        Check.isThrown("but what was said of others is", STATE, x, () -> x.say(13, 12, 1));
        x.dropPiece();
        Check.same("and still", 2, x.say(12, 0, 0));
        x.addPiece(0, 0, 0, 0);
        for (int k = 0; k < 13; k++) {
            Check.same("nothing is said of the next one", 0, x.say(k, 13, 2));
        }
        x.dropPiece();
        x.addPiece(0, 0, 0, 0);
        for (int k = 0; k < 13; k++) {
            Check.same("nothing is said of the next one", 0, x.say(13, k, 1));
        }
        Check.same("groups", 1, x.groupCount());
    }

    // "as they are put together now; -1 if no groups were joined by it"
    private static void lastLinkageOfNone() {
        ChangeUntangler x = new ChangeUntangler();
        Check.same("last linkage without pieces", -1, x.lastLinkage());
        x.addPiece(0, 0, 0, 0);
        Check.same("last linkage of one piece", -1, x.lastLinkage());
        x.addPiece(0, 0, 0, 0);
        x.addPiece(0, 20, 0, 0);
        Check.same("last linkage of pieces apart", -1, x.lastLinkage());
        x.setThreshold(1);
        x.setNames(0, DEFINES, 1);
        x.setNames(1, USES, 1);
        Check.same("the last one, not the greatest", 6, x.lastLinkage());
        x.setWeight(NEAR, 1);
        Check.same("the least that joins", 1, x.lastLinkage());
        x.setThreshold(2);
        Check.same("the first one was the last", 16, x.lastLinkage());
        x.setThreshold(16);
        Check.same("the first one was the last", 16, x.lastLinkage());
        x.setThreshold(17);
        Check.same("as they are put together now", -1, x.lastLinkage());
        x.say(0, 1, 1);
        Check.same("MUST is no linkage", -1, x.lastLinkage());
    }

    // "defines a name that it uses, and that the code does not define without the change"
    private static void needsOfNamesThatTheCodeDefines() {
        ChangeUntangler x = Made.unrelated(2);
        x.setNames(0, USES, EVERY_NAME);
        x.setNames(1, DEFINES, EVERY_NAME);
        for (int name = 0; name < 16; name++) {
            Check.same("one name that the code does not define is enough", true, x.needs(0, 1));
            Check.same("not the other way", false, x.needs(1, 0));
            x.setName(name, true, 0);
        }
        Check.same("the code defines all", false, x.needs(0, 1));
        x.setName(15, false, 9);
        Check.same("all but the last", true, x.needs(0, 1));
        int[][] sets = {{REMOVES, DROPS}, {DEFINES, REMOVES}};
        for (int[] s : sets) {
            for (int name = 0; name < 16; name += 15) {
                for (int isDefined = 0; isDefined < 2; isDefined++) {
                    ChangeUntangler y = Made.unrelated(2);
                    set(y, 1, 1 << name, 0, 1 << name, s[0], s[1]);
                    y.setName(name, isDefined == 1, 0);
                    Check.same("whether the code defines it or not", true, y.needs(1, 0));
                    Check.same("not the other way", false, y.needs(0, 1));
                }
            }
        }
    }

    // "Groups that need each other, at once or by way of others, make one parcel together; a group that is in no such
    // circle is a parcel alone."
    private static void circlesOfTwoAndOfAll() {
        ChangeUntangler x = Made.unrelated(14);
        Made.need(x, 13, 0);
        Check.same("one way is no circle", 14, x.parcelCount());
        Made.need(x, 0, 13);
        Check.same("a circle of two", 13, x.parcelCount());
        Check.same("a circle of two", 8193, x.parcel(0));
        ChangeUntangler y = Made.unrelated(14);
        for (int k = 0; k < 13; k++) {
            Made.need(y, k, k + 1);
        }
        Check.same("a chain is no circle", 14, y.parcelCount());
        for (int piece = 0; piece < 14; piece++) {
            Check.same("a chain is turned round", 13 - piece, y.parcelOf(piece));
        }
        Made.need(y, 7, 0);
        Check.same("a circle, and a chain of what it needs", "8192 4096 2048 1024 512 256 255", Made.parcels(y));
        Made.need(y, 13, 6);
        Check.same("two circles that meet", "16383", Made.parcels(y));
        Check.same("of so many groups", 14, y.groupCount());
        ChangeUntangler z = Made.unrelated(2);
        z.setNames(0, DEFINES, 1);
        z.setNames(0, USES, 1);
        z.setNames(0, REMOVES, 1);
        z.setNames(0, DROPS, 1);
        Check.same("a piece that would need itself is no knot", 0, z.knots());
        Check.same("a piece that would need itself", "1 2", Made.parcels(z));
        Check.same("parcels without pieces", 0, new ChangeUntangler().parcelCount());
    }

    // "the next one is, of those all of whose needs in other parcels are in earlier ones, that with the smallest piece"
    private static void parcelsThatAreReady() {
        ChangeUntangler x = Made.unrelated(6);
        Made.need(x, 0, 5);
        Made.need(x, 0, 2);
        Check.same("all needs must be earlier", "2 4 8 16 32 1", Made.parcels(x));
        Made.need(x, 2, 4);
        Check.same("needs of needs", "2 8 16 4 32 1", Made.parcels(x));
        Made.need(x, 1, 0);
        Check.same("the smallest waits for another that waits", "8 16 4 32 1 2", Made.parcels(x));
        Made.need(x, 5, 1);
        Check.same("a circle is ready when what it needs is", "8 16 4 35", Made.parcels(x));
        Made.need(x, 3, 5);
        Check.same("and what needs the circle comes after", "16 4 35 8", Made.parcels(x));
        for (int piece = 0; piece < 6; piece++) {
            int[] due = {2, 2, 1, 3, 0, 2};
            Check.same("parcel of a piece", due[piece], x.parcelOf(piece));
        }
    }

    // "how many parcels are made of more than one group"
    private static void knotsOfNoneAndSeven() {
        ChangeUntangler x = Made.unrelated(14);
        Check.same("no knots", 0, x.knots());
        for (int knot = 0; knot < 7; knot++) {
            Made.need(x, knot, 13 - knot);
            Made.need(x, 13 - knot, knot);
            Check.same("knots of two groups", knot + 1, x.knots());
            Check.same("parcels", 13 - knot, x.parcelCount());
        }
        for (int knot = 6; knot >= 0; knot--) {
            x.say(knot, 13 - knot, 1);
            Check.same("a parcel of one group is no knot", knot, x.knots());
            Check.same("parcels", 7, x.parcelCount());
        }
        Check.same("no knots without pieces", 0, new ChangeUntangler().knots());
    }

    // "the number of lines that its pieces add and take away, all together"
    private static void linesOfNoneAndAll() {
        ChangeUntangler x = new ChangeUntangler();
        Check.isThrown("lines without parcels", INDEX, x, () -> x.lines(0));
        x.addPiece(0, 0, 0, 0);
        Check.same("no lines", 0, x.lines(0));
        for (int k = 1; k < 14; k++) {
            x.addPiece(0, 0, 999, 999);
        }
        Check.same("no lines", 0, x.lines(0));
        Check.same("the most lines of a piece", 1998, x.lines(13));
        x.setWeight(NEAR, 50);
        Check.same("the most lines of fourteen but one", 13 * 1998, x.lines(0));
        x.dropPiece();
        x.addPiece(0, 0, 0, 1);
        Check.same("one line less many", 12 * 1998 + 1, x.lines(0));
        Check.isThrown("lines of a second parcel", INDEX, x, () -> x.lines(1));
    }

    // "It is broken if it has more than one definition"
    private static void moreThanOneDefinition() {
        for (int name = 0; name < 16; name++) {
            ChangeUntangler x = Made.apart(14);
            for (int k = 0; k < 14; k++) {
                x.setNames(k, DEFINES, 1 << name);
            }
            Check.same("no definition, no use", 0, x.broken(0));
            Check.same("one definition", 0, x.broken(1 << 13));
            Check.same("two definitions", 1 << name, x.broken(1 << 13 | 1));
            Check.same("fourteen definitions", 1 << name, x.broken(16383));
            x.setName(name, true, 9);
            Check.same("the code's definition", 0, x.broken(0));
            Check.same("the code's definition and one", 1 << name, x.broken(1 << 13));
            x.setNames(0, REMOVES, 1 << name);
            x.setNames(1, REMOVES, 1 << name);
            Check.same("one defined and removed again", 0, x.broken(1));
            Check.same("one defined, and one more that is removed again", 1 << name, x.broken(5));
        }
    }

    // "or if it has less than one, and at least one use"
    private static void lessThanOneAndAtLeastOneUse() {
        ChangeUntangler x = Made.apart(14);
        for (int k = 0; k < 14; k++) {
            x.setNames(k, k < 10 ? DROPS : REMOVES, 1 << 15);
        }
        int nineDrop = 511;
        int oneRemoves = 1 << 10;
        x.setName(15, true, 9);
        Check.same("one definition, nine uses", 0, x.broken(0));
        Check.same("no definition, nine uses", 1 << 15, x.broken(oneRemoves));
        Check.same("no definition, one use", 1 << 15, x.broken(oneRemoves | nineDrop >> 1));
        Check.same("no definition, no use", 0, x.broken(oneRemoves | nineDrop));
        Check.same("no definition, less than no use", 0, x.broken(oneRemoves | 1023));
        Check.same("three definitions less than none, nine uses", 1 << 15, x.broken(15 << 10));
        Check.same("three definitions less than none, one use", 1 << 15, x.broken(15 << 10 | nineDrop >> 1));
        Check.same("three definitions less than none, no use", 0, x.broken(15 << 10 | nineDrop));
        x.setName(15, false, 0);
        Check.same("nothing known of it, nothing applied", 0, x.broken(0));
        x.setNames(0, USES, 1 << 15);
        x.setNames(1, USES, 1 << 15);
        Check.same("used and dropped at once", 0, x.broken(1));
        x.setNames(0, DROPS, 0);
        Check.same("used once", 1 << 15, x.broken(1));
        Check.same("used once, and once more that is dropped", 1 << 15, x.broken(3));
        Check.same("used once, and dropped by another", 0, x.broken(5));
    }

    // "the sum, for each number of parcels from 1 on, of the numbers of names that are broken"
    private static void breakageOfNoneAndAll() {
        ChangeUntangler x = Made.unrelated(14);
        Check.same("the least breakage", 0, x.breakage());
        for (int name = 0; name < 16; name++) {
            x.setName(name, false, 1);
        }
        Check.same("the greatest breakage", 14 * 16, x.breakage());
        x.setName(0, true, 1);
        Check.same("one name is not broken", 14 * 15, x.breakage());
        x.dropPiece();
        Check.same("one parcel less", 13 * 15, x.breakage());
        x.setNames(12, DEFINES, EVERY_NAME);
        Check.same("the last parcel mends all but one", 12 * 15 + 1, x.breakage());
        Check.same("no breakage without pieces", 0, new ChangeUntangler().breakage());
    }

    // "from 1 on": before the first parcel nothing counts, however much is broken then
    private static void fromOneParcelOn() {
        ChangeUntangler x = new ChangeUntangler();
        for (int name = 0; name < 16; name++) {
            x.setName(name, false, 9);
        }
        Check.same("names broken without pieces", EVERY_NAME, x.broken(0));
        Check.same("breakage without pieces", 0, x.breakage());
        Check.same("least breakage without pieces", 0, x.leastBreakage());
        x.addPiece(0, 0, 0, 0);
        Check.same("breakage of one parcel", 16, x.breakage());
        Check.same("least breakage of one parcel", 16, x.leastBreakage());
        x.setNames(0, DEFINES, EVERY_NAME);
        Check.same("breakage when all are broken before it", 0, x.breakage());
        Check.same("least breakage when all are broken before it", 0, x.leastBreakage());
    }

    // "Throws IllegalStateException if there are more than 9 parcels"
    private static void bestOfNoneAndNineAndTen() {
        ChangeUntangler x = new ChangeUntangler();
        Check.same("least breakage of no parcels", 0, x.leastBreakage());
        Check.isThrown("best of no parcels", INDEX, x, () -> x.best(0));
        for (int pieces = 1; pieces <= 9; pieces++) {
            ChangeUntangler y = Made.unrelated(pieces);
            y.setName(0, false, 1);
            y.setNames(pieces - 1, DEFINES, 1);
            Check.same("least breakage", 0, y.leastBreakage());
            Check.same("best, the first", pieces - 1, y.best(0));
            Check.same("best, the last", Math.max(0, pieces - 2), y.best(pieces - 1));
        }
        for (int pieces = 10; pieces <= 14; pieces++) {
            ChangeUntangler y = Made.unrelated(pieces);
            Check.isThrown("least breakage of ten or more", STATE, y, () -> y.leastBreakage());
            Check.isThrown("best of ten or more", STATE, y, () -> y.best(0));
            Check.isThrown("best of ten or more, no place", STATE, y, () -> y.best(-1));
            for (int k = 9; k < pieces; k++) {
                y.say(k - 1, k, 1);
            }
            Check.same("so many pieces in nine parcels", 0, y.leastBreakage());
            Check.same("best, the last", 8, y.best(8));
            y.say(8, 9, 0);
            Check.isThrown("one of ten again", STATE, y, () -> y.best(8));
            Made.need(y, 0, 1);
            Made.need(y, 1, 0);
            Check.same("nine parcels of ten groups", 9, y.parcelCount());
            Check.same("nine parcels of ten groups", "012345678", Made.bestOrder(y));
        }
    }

    // "of several the one whose first parcel has the smallest number, then the one whose second parcel has, and so on";
    // "(Any order has one, whatever parcels need.)"
    private static void bestOfSeveral() {
        ChangeUntangler x = Made.unrelated(9);
        Check.same("of all orders the first", "012345678", Made.bestOrder(x));
        x.setName(0, true, 0);
        x.setNames(3, DEFINES, 1);
        Check.same("one that breaks comes last", "012456783", Made.bestOrder(x));
        x.setNames(7, REMOVES, 1);
        Check.same("piece 3 needs piece 7", "1 2 4 16 32 64 128 8 256", Made.parcels(x));
        Check.same("as the parcels are ordered it breaks nothing", "012345678", Made.bestOrder(x));
        Check.same("as the parcels are ordered it breaks nothing", 0, x.breakage());
        x.setName(0, true, 1);
        Check.same("between both, one is broken", 1, x.breakage());
        Check.same("between both, one is broken", 1, x.leastBreakage());
        x.setNames(8, REMOVES, 1 << 1);
        x.setNames(0, USES, 1 << 1);
        x.setName(1, true, 0);
        Check.same("what is removed is used: last, for then it breaks once", "012345678", Made.bestOrder(x));
        x.setNames(1, DROPS, 1 << 1);
        Check.same("what the parcels need", "1 2 4 16 32 64 128 8 256", Made.parcels(x));
        Check.same("one ahead of it", 1, x.leastBreakage());
        ChangeUntangler y = Made.unrelated(3);
        y.setName(0, true, 0);
        y.setName(1, false, 2);
        y.setNames(1, REMOVES, 1);
        y.setNames(1, DEFINES, 2);
        y.setNames(2, DEFINES, 1);
        y.setNames(0, REMOVES, 2);
        Check.same("parcels as they need each other", "1 2 4", Made.parcels(y));
        Check.same("breakage in their order", 3, y.breakage());
        Check.same("an order against the needs is one too", "120", Made.bestOrder(y));
        Check.same("and it breaks less", 1, y.leastBreakage());
    }

    // "1 if there are no pairs"
    private static void agreementWithoutPairs() {
        ChangeUntangler x = new ChangeUntangler();
        Check.same("agreement without pieces", 1.0, x.agreement());
        x.addPiece(0, 0, 0, 0);
        Check.same("agreement of one piece", 1.0, x.agreement());
        x.setPurpose(0, 9);
        Check.same("agreement of one piece", 1.0, x.agreement());
        x.addPiece(9, 0, 0, 0);
        Check.same("agreement of one pair, apart", 1.0, x.agreement());
        x.say(0, 1, 1);
        Check.same("agreement of one pair, together", 0.0, x.agreement());
        x.setPurpose(1, 9);
        Check.same("agreement of one pair, together", 1.0, x.agreement());
        x.say(0, 1, 0);
        Check.same("agreement of one pair, apart", 0.0, x.agreement());
        x.dropPiece();
        Check.same("agreement of one piece again", 1.0, x.agreement());
    }

    // "the part of those that are in the same group just if they have the same purpose"
    private static void agreementOfAllAndNone() {
        ChangeUntangler x = Made.unrelated(14);
        Check.same("all of one purpose, all apart", 0.0, x.agreement());
        x.say(0, 13, 1);
        Check.same("one of 91 pairs", 1.0 / 91.0, x.agreement());
        for (int k = 1; k < 14; k++) {
            x.say(k - 1, k, 1);
        }
        Check.same("all of one purpose, all together", 1.0, x.agreement());
        x.setPurpose(13, 9);
        Check.same("13 of 91 pairs are of two purposes", 78.0 / 91.0, x.agreement());
        for (int k = 0; k < 10; k++) {
            x.setPurpose(k, k);
        }
        x.setPurpose(13, 0);
        Check.same("14 pieces with 10 purposes: 0 five times", 10.0 / 91.0, x.agreement());
    }

    // "wraps around as a 64-bit integer"
    private static void digestWrapsAround() {
        BigInteger d = BigInteger.valueOf(173);
        int[] first = {0, 6, 5, 8, 10, 20, 12, 1};
        for (int number : first) {
            d = next(d, number);
        }
        for (int zero = 0; zero < 32 + 3; zero++) {
            d = next(d, 0);
        }
        Check.same("it has grown beyond 64 bits", true, d.bitLength() > 64);
        Check.same("digest of a new object", d.longValue(), new ChangeUntangler().digest());
        int negative = 0;
        int positive = 0;
        for (int span = 0; span < 40; span++) {
            ChangeUntangler x = new ChangeUntangler();
            x.setSpan(span);
            BigInteger due = d.add(BigInteger.valueOf(span - 20).multiply(BigInteger.valueOf(31).pow(37)));
            Check.same("digest of span " + span, due.longValue(), x.digest());
            negative += x.digest() < 0 ? 1 : 0;
            positive += x.digest() > 0 ? 1 : 0;
        }
        Check.same("some digests are negative", true, negative > 5);
        Check.same("some digests are positive", true, positive > 5);
    }

    private static BigInteger next(BigInteger d, long number) {
        return d.multiply(BigInteger.valueOf(31)).add(BigInteger.valueOf(number));
    }

    /** 14 pieces with the greatest numbers everywhere; each is a group, and all are a parcel. */
    private static ChangeUntangler greatest() {
        ChangeUntangler x = new ChangeUntangler();
        for (int k = 0; k < 14; k++) {
            x.addPiece(9, 9999, 999, 999);
            for (int what = 0; what < 4; what++) {
                x.setNames(k, what, EVERY_NAME);
            }
            x.setPurpose(k, 9);
            for (int other = 0; other < k; other++) {
                x.say(k, other, 2);
            }
        }
        for (int name = 0; name < 16; name++) {
            x.setName(name, false, 9);
        }
        for (int kind = 0; kind < 4; kind++) {
            x.setWeight(kind, 50);
        }
        x.setSpan(999);
        x.setThreshold(999);
        x.setManner(2);
        return x;
    }

    private static void digestOfTheGreatest() {
        BigInteger d = next(BigInteger.valueOf(173), 14);
        for (int k = 0; k < 14; k++) {
            int[] piece = {9, 9999, 999, 999, EVERY_NAME, EVERY_NAME, EVERY_NAME, EVERY_NAME, 9};
            for (int number : piece) {
                d = next(d, number);
            }
        }
        int[] settings = {50, 50, 50, 50, 999, 999, 2};
        for (int number : settings) {
            d = next(d, number);
        }
        for (int name = 0; name < 16; name++) {
            d = next(next(d, 0), 9);
        }
        d = next(d, 14);
        for (int k = 0; k < 14; k++) {
            d = next(d, 1 << k);
        }
        d = next(next(next(d, 1), 16383), 16);
        Check.same("digest of the greatest numbers", d.longValue(), greatest().digest());
        Check.isThrown("one piece more", STATE, greatest(), () -> greatest().addPiece(9, 9999, 999, 999));
        Check.isThrown("one number more", ARGUMENT, greatest(), () -> greatest().addPiece(9, 9999, 999, 1000));
    }
}
