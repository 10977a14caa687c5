/**
 * Untangles a big change of source code: it weighs how much its pieces have to do with each other, puts them
 * into groups, makes parcels of the groups that need each other, and tells in which order these can be applied.
 */
public final class ChangeUntangler {
    private static final int MOST_PIECES = 14;
    private static final int NAME_COUNT = 16;
    private static final int EVERY_NAME = (1 << NAME_COUNT) - 1;
    /** Beyond this number of parcels the document asks for no best order. */
    private static final int MOST_TO_ORDER = 9;
    /** Greater than any affinity and any breakage. */
    private static final int BEYOND_ALL = 1000000;

    private static final int GREATEST_FILE = 9;
    private static final int GREATEST_LINE = 9999;
    private static final int GREATEST_LENGTH = 999;
    private static final int GREATEST_USES = 9;
    private static final int GREATEST_WEIGHT = 50;
    private static final int GREATEST_SPAN = 999;
    private static final int GREATEST_THRESHOLD = 999;
    private static final int GREATEST_PURPOSE = 9;

    private static final int DEFINES = 0;
    private static final int REMOVES = 1;
    private static final int USES = 2;
    private static final int DROPS = 3;
    private static final int SET_COUNT = 4;

    private static final int NEAR = 0;
    private static final int FLOW = 1;
    private static final int MOVE = 2;
    private static final int ALIKE = 3;
    private static final int KIND_COUNT = 4;

    private static final int BY_GREATEST = 0;
    private static final int BY_AVERAGE = 1;
    private static final int BY_LEAST = 2;

    private static final int NOTHING_SAID = 0;
    private static final int MUST = 1;
    private static final int MUST_NOT = 2;

    private final Pieces pieces;
    private final Code code;
    private final Evidence evidence;
    private final Sayings sayings;
    private final Groups groups;
    private final Parcels parcels;
    private final BestOrder bestOrder;
    /** Groups and parcels are put together only when asked for, and kept until something they hang on is set. */
    private boolean isPutTogether;
    private boolean isBestKnown;

    public ChangeUntangler() {
        pieces = new Pieces();
        code = new Code();
        evidence = new Evidence();
        sayings = new Sayings();
        groups = new Groups();
        parcels = new Parcels();
        bestOrder = new BestOrder();
    }

    // ---- pieces and names

    public int addPiece(int file, int line, int added, int taken)
            throws IllegalArgumentException, IllegalStateException {
        if (!isUpTo(file, GREATEST_FILE) || !isUpTo(line, GREATEST_LINE)) {
            throw new IllegalArgumentException("no such file or line");
        }
        if (!isUpTo(added, GREATEST_LENGTH) || !isUpTo(taken, GREATEST_LENGTH)) {
            throw new IllegalArgumentException("no such number of lines");
        }
        if (pieces.count >= MOST_PIECES) {
            throw new IllegalStateException("no room for another piece");
        }
        forgetResults();
        return pieces.append(file, line, added, taken);
    }

    public int setNames(int piece, int what, int names)
            throws IndexOutOfBoundsException, IllegalArgumentException {
        requireSet(piece, what);
        if (!isUpTo(names, EVERY_NAME)) {
            throw new IllegalArgumentException("no such set of names");
        }
        forgetResults();
        return pieces.replaceNames(piece, what, names);
    }

    public int names(int piece, int what) throws IndexOutOfBoundsException {
        requireSet(piece, what);
        return pieces.namesOf[what][piece];
    }

    public boolean setName(int name, boolean isDefined, int uses)
            throws IndexOutOfBoundsException, IllegalArgumentException {
        if (name < 0 || name >= NAME_COUNT) {
            throw new IndexOutOfBoundsException("no such name");
        }
        if (!isUpTo(uses, GREATEST_USES)) {
            throw new IllegalArgumentException("no such number of uses");
        }
        forgetResults();
        return code.learn(name, isDefined, uses);
    }

    public int dropPiece() throws IllegalStateException {
        if (pieces.count <= 0) {
            throw new IllegalStateException("there is no piece");
        }
        forgetResults();
        pieces.removeLast();
        sayings.forgetPiece(pieces.count);
        return pieces.count;
    }

    public int pieceCount() {
        return pieces.count;
    }

    // ---- evidence

    public int setWeight(int kind, int weight) throws IndexOutOfBoundsException, IllegalArgumentException {
        requireKind(kind);
        if (!isUpTo(weight, GREATEST_WEIGHT)) {
            throw new IllegalArgumentException("no such weight");
        }
        forgetResults();
        int before = evidence.weights[kind];
        evidence.weights[kind] = weight;
        return before;
    }

    public int setSpan(int span) throws IllegalArgumentException {
        if (!isUpTo(span, GREATEST_SPAN)) {
            throw new IllegalArgumentException("no such span");
        }
        forgetResults();
        int before = evidence.span;
        evidence.span = span;
        return before;
    }

    public int points(int a, int b, int kind) throws IndexOutOfBoundsException, IllegalArgumentException {
        requirePiece(a);
        requirePiece(b);
        requireKind(kind);
        requireDifferent(a, b);
        return evidence.pointsBy(kind, pieces, a, b);
    }

    public int affinity(int a, int b) throws IndexOutOfBoundsException, IllegalArgumentException {
        requirePiece(a);
        requirePiece(b);
        requireDifferent(a, b);
        return evidence.sumOfPoints(pieces, a, b);
    }

    public int closest(int piece) throws IndexOutOfBoundsException {
        requirePiece(piece);
        int found = -1;
        int greatest = -1;
        for (int other = 0; other < pieces.count; other++) {
            int sum = other == piece ? -1 : evidence.sumOfPoints(pieces, piece, other);
            if (sum > greatest) {
                greatest = sum;
                found = other;
            }
        }
        return found;
    }

    // ---- groups

    public int setThreshold(int threshold) throws IllegalArgumentException {
        if (threshold < 1 || threshold > GREATEST_THRESHOLD) {
            throw new IllegalArgumentException("no such threshold");
        }
        forgetResults();
        int before = groups.threshold;
        groups.threshold = threshold;
        return before;
    }

    public int setManner(int manner) throws IllegalArgumentException {
        if (!isUpTo(manner, BY_LEAST)) {
            throw new IllegalArgumentException("no such manner");
        }
        forgetResults();
        int before = groups.manner;
        groups.manner = manner;
        return before;
    }

    public int say(int a, int b, int what)
            throws IndexOutOfBoundsException, IllegalArgumentException, IllegalStateException {
        requirePiece(a);
        requirePiece(b);
        requireDifferent(a, b);
        if (!isUpTo(what, MUST_NOT)) {
            throw new IllegalArgumentException("nothing that can be said");
        }
        int before = sayings.saidOf(a, b);
        sayings.put(a, b, what);
        if (sayings.isContradiction()) {
            sayings.put(a, b, before);
            throw new IllegalStateException("pieces would be joined that must not be together");
        }
        forgetResults();
        return before;
    }

    public int groupCount() {
        putTogether();
        return groups.count;
    }

    public int group(int group) throws IndexOutOfBoundsException {
        requireGroup(group);
        return groups.sets[group];
    }

    public int groupOf(int piece) throws IndexOutOfBoundsException {
        requirePiece(piece);
        putTogether();
        return placeOf(piece, groups.sets, groups.count);
    }

    public int linkage(int a, int b) throws IndexOutOfBoundsException, IllegalArgumentException {
        requireGroup(a);
        requireGroup(b);
        if (a == b) {
            throw new IllegalArgumentException("the same group twice");
        }
        return groups.linkageOf(groups.sets[a], groups.sets[b]);
    }

    public int lastLinkage() {
        putTogether();
        return groups.linkageOfLastJoin;
    }

    // ---- needs and parcels

    public boolean needs(int a, int b) throws IndexOutOfBoundsException, IllegalArgumentException {
        requirePiece(a);
        requirePiece(b);
        requireDifferent(a, b);
        return pieces.isNeeded(a, b, code.definedNames);
    }

    public int parcelCount() {
        putTogether();
        return parcels.count;
    }

    public int parcel(int parcel) throws IndexOutOfBoundsException {
        requireParcel(parcel);
        return parcels.sets[parcel];
    }

    public int parcelOf(int piece) throws IndexOutOfBoundsException {
        requirePiece(piece);
        putTogether();
        return placeOf(piece, parcels.sets, parcels.count);
    }

    public int knots() {
        putTogether();
        return parcels.knotCount;
    }

    public int lines(int parcel) throws IndexOutOfBoundsException {
        requireParcel(parcel);
        return pieces.linesOf(parcels.sets[parcel]);
    }

    // ---- applying

    public int broken(int pieces) throws IllegalArgumentException {
        if ((pieces & ~this.pieces.all()) != 0) {
            throw new IllegalArgumentException("not a set of pieces");
        }
        return code.brokenBy(this.pieces, pieces);
    }

    public int breakage() {
        putTogether();
        return breakageInOrder();
    }

    public int leastBreakage() throws IllegalStateException {
        findBest();
        return bestOrder.least;
    }

    public int best(int place) throws IllegalStateException, IndexOutOfBoundsException {
        findBest();
        if (place < 0 || place >= bestOrder.length) {
            throw new IndexOutOfBoundsException("no such place");
        }
        return bestOrder.order[place];
    }

    // ---- a judge

    public int setPurpose(int piece, int purpose) throws IndexOutOfBoundsException, IllegalArgumentException {
        requirePiece(piece);
        if (!isUpTo(purpose, GREATEST_PURPOSE)) {
            throw new IllegalArgumentException("no such purpose");
        }
        int before = pieces.purposes[piece];
        pieces.purposes[piece] = purpose;
        return before;
    }

    public double agreement() {
        putTogether();
        int pairs = 0;
        int agreed = 0;
        for (int b = 1; b < pieces.count; b++) {
            for (int a = 0; a < b; a++) {
                boolean isSamePurpose = pieces.purposes[a] == pieces.purposes[b];
                pairs++;
                if (isSamePurpose == groups.isTogether(a, b)) {
                    agreed++;
                }
            }
        }
        return pairs == 0 ? 1.0 : (double) agreed / (double) pairs;
    }

    public long digest() {
        putTogether();
        long d = mixRow(pieces.mixInto(173L), evidence.weights, KIND_COUNT);
        d = mix(d, evidence.span);
        d = mix(d, groups.threshold);
        d = mix(d, groups.manner);
        d = code.mixInto(d);
        d = mixRow(mix(d, groups.count), groups.sets, groups.count);
        d = mixRow(mix(d, parcels.count), parcels.sets, parcels.count);
        return mix(d, breakageInOrder());
    }

    // ---- what several calls share

    private void forgetResults() {
        isPutTogether = false;
        isBestKnown = false;
    }

    private void putTogether() {
        if (!isPutTogether) {
            groups.weighAll(pieces, evidence);
            groups.build(pieces.count, sayings);
            parcels.build(pieces, code, groups);
            isPutTogether = true;
        }
    }

    private int breakageInOrder() {
        int applied = 0;
        int sum = 0;
        for (int parcel = 0; parcel < parcels.count; parcel++) {
            applied |= parcels.sets[parcel];
            sum += Integer.bitCount(code.brokenBy(pieces, applied));
        }
        return sum;
    }

    private void findBest() {
        putTogether();
        if (parcels.count > MOST_TO_ORDER) {
            throw new IllegalStateException("too many parcels");
        }
        if (!isBestKnown) {
            bestOrder.find(parcels, pieces, code);
            isBestKnown = true;
        }
    }

    private void requirePiece(int piece) {
        if (!pieces.has(piece)) {
            throw new IndexOutOfBoundsException("no such piece");
        }
    }

    private void requireSet(int piece, int what) {
        requirePiece(piece);
        if (what < 0 || what >= SET_COUNT) {
            throw new IndexOutOfBoundsException("no such set of names of a piece");
        }
    }

    private void requireGroup(int group) {
        putTogether();
        if (group < 0 || group >= groups.count) {
            throw new IndexOutOfBoundsException("no such group");
        }
    }

    private void requireParcel(int parcel) {
        putTogether();
        if (parcel < 0 || parcel >= parcels.count) {
            throw new IndexOutOfBoundsException("no such parcel");
        }
    }

    private static void requireKind(int kind) {
        if (kind < 0 || kind >= KIND_COUNT) {
            throw new IndexOutOfBoundsException("no such kind of evidence");
        }
    }

    private static void requireDifferent(int a, int b) {
        if (a == b) {
            throw new IllegalArgumentException("the same piece twice");
        }
    }

    private static boolean isUpTo(int number, int greatest) {
        return number >= 0 && number <= greatest;
    }

    private static boolean isIn(int element, int set) {
        return (set >> element & 1) == 1;
    }

    private static int placeOf(int piece, int[] sets, int count) {
        for (int place = 0; place < count && place < sets.length; place++) {
            if (isIn(piece, sets[place])) {
                return place;
            }
        }
        return -1;
    }

    private static long mix(long d, long x) {
        return d * 31 + x;
    }

    private static long mixRow(long d, int[] row, int count) {
        long mixed = d;
        for (int k = 0; k < count && k < row.length; k++) {
            mixed = mix(mixed, row[k]);
        }
        return mixed;
    }

    /** The pieces, each a column in these rows. */
    private static final class Pieces {
        int count;
        final int[] files = new int[MOST_PIECES];
        final int[] startLines = new int[MOST_PIECES];
        final int[] added = new int[MOST_PIECES];
        final int[] taken = new int[MOST_PIECES];
        final int[] purposes = new int[MOST_PIECES];
        /** Row: which of a piece's sets; column: the piece. */
        final int[][] namesOf = new int[SET_COUNT][MOST_PIECES];
        /** The same turned round (column: the name; a set of pieces), so that definitions and uses count fast. */
        final int[][] piecesWith = new int[SET_COUNT][NAME_COUNT];

        boolean has(int piece) {
            return piece >= 0 && piece < count;
        }

        int all() {
            return (1 << count) - 1;
        }

        int append(int file, int line, int linesAdded, int linesTaken) {
            int piece = count;
            if (piece >= MOST_PIECES) {
                return -1;
            }
            files[piece] = file;
            startLines[piece] = line;
            added[piece] = linesAdded;
            taken[piece] = linesTaken;
            purposes[piece] = 0;
            count = piece + 1;
            return piece;
        }

        void removeLast() {
            if (count <= 0) {
                return;
            }
            for (int what = 0; what < SET_COUNT; what++) {
                replaceNames(count - 1, what, 0);
            }
            count--;
        }

        int replaceNames(int piece, int what, int names) {
            int before = namesOf[what][piece];
            namesOf[what][piece] = names;
            for (int name = 0; name < NAME_COUNT; name++) {
                int others = piecesWith[what][name] & ~(1 << piece);
                piecesWith[what][name] = others | (names >> name & 1) << piece;
            }
            return before;
        }

        int everyNameOf(int piece) {
            return namesOf[DEFINES][piece] | namesOf[REMOVES][piece] | namesOf[USES][piece] | namesOf[DROPS][piece];
        }

        /** How many names one piece has in a set where the other one has them in the set opposite, both ways. */
        int crossings(int a, int b, int what, int opposite) {
            return Integer.bitCount(namesOf[what][a] & namesOf[opposite][b])
                + Integer.bitCount(namesOf[what][b] & namesOf[opposite][a]);
        }

        boolean isNeeded(int piece, int ahead, int definedNames) {
            int defined = namesOf[USES][piece] & namesOf[DEFINES][ahead] & ~definedNames;
            int dropped = namesOf[REMOVES][piece] & namesOf[DROPS][ahead];
            int removed = namesOf[DEFINES][piece] & namesOf[REMOVES][ahead];
            return (defined | dropped | removed) != 0;
        }

        /** The pieces that one of the set needs, which may be in the set themselves. */
        int neededBy(int set, int definedNames) {
            int needed = 0;
            for (int piece = 0; piece < count; piece++) {
                for (int ahead = 0; ahead < count && isIn(piece, set); ahead++) {
                    if (ahead != piece && isNeeded(piece, ahead, definedNames)) {
                        needed |= 1 << ahead;
                    }
                }
            }
            return needed;
        }

        int linesOf(int set) {
            int sum = 0;
            for (int piece = 0; piece < count; piece++) {
                if (isIn(piece, set)) {
                    sum += added[piece] + taken[piece];
                }
            }
            return sum;
        }

        long mixInto(long d) {
            long mixed = mix(d, count);
            for (int piece = 0; piece < count; piece++) {
                mixed = mix(mixed, files[piece]);
                mixed = mix(mixed, startLines[piece]);
                mixed = mix(mixed, added[piece]);
                mixed = mix(mixed, taken[piece]);
                for (int what = 0; what < SET_COUNT; what++) {
                    mixed = mix(mixed, namesOf[what][piece]);
                }
                mixed = mix(mixed, purposes[piece]);
            }
            return mixed;
        }
    }

    /** What is known of the names without the change. */
    private static final class Code {
        int definedNames;
        final int[] otherUses = new int[NAME_COUNT];

        boolean learn(int name, boolean isDefined, int uses) {
            boolean isOther = isDefined != isIn(name, definedNames) || uses != otherUses[name];
            definedNames = isDefined ? definedNames | 1 << name : definedNames & ~(1 << name);
            otherUses[name] = uses;
            return isOther;
        }

        int brokenBy(Pieces pieces, int applied) {
            int found = 0;
            for (int name = 0; name < NAME_COUNT; name++) {
                int definitions = (definedNames >> name & 1)
                    + Integer.bitCount(pieces.piecesWith[DEFINES][name] & applied)
                    - Integer.bitCount(pieces.piecesWith[REMOVES][name] & applied);
                int uses = otherUses[name]
                    + Integer.bitCount(pieces.piecesWith[USES][name] & applied)
                    - Integer.bitCount(pieces.piecesWith[DROPS][name] & applied);
                if (definitions > 1 || definitions < 1 && uses >= 1) {
                    found |= 1 << name;
                }
            }
            return found;
        }

        long mixInto(long d) {
            long mixed = d;
            for (int name = 0; name < NAME_COUNT; name++) {
                mixed = mix(mixed, definedNames >> name & 1);
                mixed = mix(mixed, otherUses[name]);
            }
            return mixed;
        }
    }

    /** What two pieces have to do with each other. */
    private static final class Evidence {
        final int[] weights = new int[KIND_COUNT];
        int span;

        Evidence() {
            weights[NEAR] = 6;
            weights[FLOW] = 5;
            weights[MOVE] = 8;
            weights[ALIKE] = 10;
            span = 20;
        }

        int pointsBy(int kind, Pieces pieces, int a, int b) {
            switch (kind) {
                case NEAR:
                    return isNear(pieces, a, b) ? weights[NEAR] : 0;
                case FLOW:
                    return weights[FLOW] * pieces.crossings(a, b, DEFINES, USES);
                case MOVE:
                    return weights[MOVE] * pieces.crossings(a, b, REMOVES, DEFINES);
                case ALIKE:
                    return shareOf(weights[ALIKE], pieces.everyNameOf(a), pieces.everyNameOf(b));
                default:
                    return 0;
            }
        }

        int sumOfPoints(Pieces pieces, int a, int b) {
            int sum = 0;
            for (int kind = 0; kind < KIND_COUNT; kind++) {
                sum += pointsBy(kind, pieces, a, b);
            }
            return sum;
        }

        private boolean isNear(Pieces pieces, int a, int b) {
            return pieces.files[a] == pieces.files[b] && Math.abs(pieces.startLines[a] - pieces.startLines[b]) <= span;
        }

        private static int shareOf(int weight, int namesOfOne, int namesOfOther) {
            int either = Integer.bitCount(namesOfOne | namesOfOther);
            return either == 0 ? 0 : weight * Integer.bitCount(namesOfOne & namesOfOther) / either;
        }
    }

    /** What was said of pairs of pieces: for each piece the sets of those that it must, and must not, be with. */
    private static final class Sayings {
        private final int[] must = new int[MOST_PIECES];
        private final int[] mustNot = new int[MOST_PIECES];

        int saidOf(int a, int b) {
            if (isIn(b, must[a])) {
                return MUST;
            }
            return isIn(b, mustNot[a]) ? MUST_NOT : NOTHING_SAID;
        }

        void put(int a, int b, int what) {
            putOneWay(a, b, what);
            putOneWay(b, a, what);
        }

        private void putOneWay(int from, int to, int what) {
            int others = ~(1 << to);
            must[from] = must[from] & others | (what == MUST ? 1 << to : 0);
            mustNot[from] = mustNot[from] & others | (what == MUST_NOT ? 1 << to : 0);
        }

        void forgetPiece(int piece) {
            for (int other = 0; other < MOST_PIECES; other++) {
                putOneWay(other, piece, NOTHING_SAID);
                if (other == piece) {
                    must[other] = 0;
                    mustNot[other] = 0;
                }
            }
        }

        /** The piece and all that are joined to it by MUST, or by way of others. */
        int joinedTo(int piece) {
            int joined = 1 << piece;
            int before = 0;
            for (int round = 0; round < MOST_PIECES && joined != before; round++) {
                before = joined;
                for (int other = 0; other < MOST_PIECES; other++) {
                    joined |= isIn(other, joined) ? must[other] : 0;
                }
            }
            return joined;
        }

        boolean isContradiction() {
            for (int piece = 0; piece < MOST_PIECES; piece++) {
                if (mustNot[piece] != 0 && (joinedTo(piece) & mustNot[piece]) != 0) {
                    return true;
                }
            }
            return false;
        }

        boolean isForbidden(int set, int otherSet) {
            for (int piece = 0; piece < MOST_PIECES; piece++) {
                if (isIn(piece, set) && (mustNot[piece] & otherSet) != 0) {
                    return true;
                }
            }
            return false;
        }
    }

    /** The groups, in the order of their smallest pieces. */
    private static final class Groups {
        int threshold = 12;
        int manner = BY_AVERAGE;
        int count;
        int linkageOfLastJoin;
        final int[] sets = new int[MOST_PIECES];
        private final int[][] affinities = new int[MOST_PIECES][MOST_PIECES];

        void weighAll(Pieces pieces, Evidence evidence) {
            for (int b = 1; b < pieces.count; b++) {
                for (int a = 0; a < b; a++) {
                    int sum = evidence.sumOfPoints(pieces, a, b);
                    affinities[a][b] = sum;
                    affinities[b][a] = sum;
                }
            }
        }

        void build(int pieceTotal, Sayings sayings) {
            joinWhatMust(pieceTotal, sayings);
            linkageOfLastJoin = -1;
            boolean isJoined = true;
            // a join makes one group less, so there are fewer joins than pieces
            for (int round = 0; round < MOST_PIECES && isJoined; round++) {
                isJoined = joinNearest(sayings);
            }
        }

        private void joinWhatMust(int pieceTotal, Sayings sayings) {
            count = 0;
            for (int piece = 0; piece < pieceTotal && piece < MOST_PIECES; piece++) {
                int joined = sayings.joinedTo(piece);
                boolean isSmallest = (joined & (1 << piece) - 1) == 0;
                if (isSmallest) {
                    sets[count] = joined;
                    count++;
                }
            }
        }

        /** Answers whether there were two groups to join. */
        private boolean joinNearest(Sayings sayings) {
            int greatest = -1;
            int first = 0;
            int second = 0;
            for (int a = 0; a < count; a++) {
                for (int b = a + 1; b < count; b++) {
                    int link = sayings.isForbidden(sets[a], sets[b]) ? -1 : linkageOf(sets[a], sets[b]);
                    if (link > greatest) {
                        greatest = link;
                        first = a;
                        second = b;
                    }
                }
            }
            if (greatest < threshold) {
                return false;
            }
            join(first, second);
            linkageOfLastJoin = greatest;
            return true;
        }

        /** The first one has the smaller piece, so the order stays as it was. */
        private void join(int first, int second) {
            sets[first] |= sets[second];
            for (int later = second + 1; later < count; later++) {
                sets[later - 1] = sets[later];
            }
            count--;
        }

        int linkageOf(int set, int otherSet) {
            int greatest = 0;
            int least = BEYOND_ALL;
            int sum = 0;
            for (int a = 0; a < MOST_PIECES; a++) {
                for (int b = 0; b < MOST_PIECES && isIn(a, set); b++) {
                    if (isIn(b, otherSet)) {
                        greatest = Math.max(greatest, affinities[a][b]);
                        least = Math.min(least, affinities[a][b]);
                        sum += affinities[a][b];
                    }
                }
            }
            int pairs = Integer.bitCount(set) * Integer.bitCount(otherSet);
            if (pairs == 0) {
                return 0;
            }
            if (manner == BY_AVERAGE) {
                return sum / pairs;
            }
            return manner == BY_GREATEST ? greatest : least;
        }

        boolean isTogether(int a, int b) {
            return placeOf(a, sets, count) == placeOf(b, sets, count);
        }
    }

    /** The parcels, in the order in which their needs let them be applied. */
    private static final class Parcels {
        int count;
        int knotCount;
        final int[] sets = new int[MOST_PIECES];
        /** For each group the set of the groups that it needs, at once or by way of others. */
        private final int[] needed = new int[MOST_PIECES];

        void build(Pieces pieces, Code code, Groups groups) {
            findNeeds(pieces, code, groups);
            needByWayOfOthers(groups.count);
            count = 0;
            knotCount = 0;
            int placed = 0;
            for (int round = 0; round < groups.count; round++) {
                int circle = nextCircle(groups.count, placed);
                if (circle != 0) {
                    placed |= circle;
                    append(circle, groups);
                }
            }
        }

        private void findNeeds(Pieces pieces, Code code, Groups groups) {
            for (int group = 0; group < groups.count; group++) {
                int neededPieces = pieces.neededBy(groups.sets[group], code.definedNames);
                needed[group] = 0;
                for (int other = 0; other < groups.count; other++) {
                    if (other != group && (neededPieces & groups.sets[other]) != 0) {
                        needed[group] |= 1 << other;
                    }
                }
            }
        }

        private void needByWayOfOthers(int groupTotal) {
            for (int way = 0; way < groupTotal; way++) {
                for (int group = 0; group < groupTotal; group++) {
                    if (isIn(way, needed[group])) {
                        needed[group] |= needed[way];
                    }
                }
            }
        }

        /** The groups of the parcel that comes after those placed; none if all are placed. */
        private int nextCircle(int groupTotal, int placed) {
            // a circle's first group stands for it, so the first that is ready has the smallest piece
            for (int group = 0; group < groupTotal; group++) {
                int circle = circleOf(group, groupTotal);
                boolean isReady = (needed[group] & ~circle & ~placed) == 0;
                if (!isIn(group, placed) && isReady) {
                    return circle;
                }
            }
            return 0;
        }

        private int circleOf(int group, int groupTotal) {
            int circle = 1 << group;
            for (int other = 0; other < groupTotal; other++) {
                if (isIn(other, needed[group]) && isIn(group, needed[other])) {
                    circle |= 1 << other;
                }
            }
            return circle;
        }

        private void append(int circle, Groups groups) {
            if (count >= MOST_PIECES) {
                return;
            }
            sets[count] = 0;
            for (int group = 0; group < groups.count; group++) {
                sets[count] |= isIn(group, circle) ? groups.sets[group] : 0;
            }
            count++;
            if (Integer.bitCount(circle) > 1) {
                knotCount++;
            }
        }

        /** The pieces of a set of parcels. */
        int piecesIn(int chosen) {
            int set = 0;
            for (int parcel = 0; parcel < count; parcel++) {
                set |= isIn(parcel, chosen) ? sets[parcel] : 0;
            }
            return set;
        }
    }

    /** The order of the parcels that breaks least, of at most MOST_TO_ORDER of them. */
    private static final class BestOrder {
        int least;
        int length;
        final int[] order = new int[MOST_TO_ORDER];
        /** For each set of parcels the least that breaks when it is applied, and from then on. */
        private final int[] fromThen = new int[1 << MOST_TO_ORDER];

        void find(Parcels parcels, Pieces pieces, Code code) {
            length = Math.min(parcels.count, MOST_TO_ORDER);
            for (int chosen = (1 << length) - 1; chosen >= 0; chosen--) {
                int next = nextAfter(chosen);
                int later = next < 0 ? 0 : fromThen[chosen | 1 << next];
                // before the first parcel nothing counts as broken
                int now = chosen == 0 ? 0 : Integer.bitCount(code.brokenBy(pieces, parcels.piecesIn(chosen)));
                fromThen[chosen] = now + later;
            }
            least = fromThen[0];
            walk();
        }

        private void walk() {
            int chosen = 0;
            for (int place = 0; place < length; place++) {
                int next = nextAfter(chosen);
                if (next >= 0) {
                    order[place] = next;
                    chosen |= 1 << next;
                }
            }
        }

        /** The smallest of the parcels that break least when they come next; -1 if none is left. */
        private int nextAfter(int chosen) {
            int found = -1;
            int leastThen = BEYOND_ALL;
            for (int parcel = 0; parcel < length; parcel++) {
                if (!isIn(parcel, chosen) && fromThen[chosen | 1 << parcel] < leastThen) {
                    leastThen = fromThen[chosen | 1 << parcel];
                    found = parcel;
                }
            }
            return found;
        }
    }
}
