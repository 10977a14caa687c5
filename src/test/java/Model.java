import java.util.ArrayList;
import java.util.HashMap;
import java.util.HashSet;
import java.util.List;
import java.util.Map;
import java.util.Set;
import java.util.TreeSet;

/** The document once more, in the plainest way and by other means than the class: nothing is kept but what was set. */
final class Model {
    static final class Piece {
        int file;
        int line;
        int added;
        int taken;
        int purpose;
        final List<Set<Integer>> names = new ArrayList<>();
    }

    final List<Piece> pieces = new ArrayList<>();
    final boolean[] isDefined = new boolean[16];
    final int[] uses = new int[16];
    final int[] weights = {6, 5, 8, 10};
    int span = 20;
    int threshold = 12;
    int manner = 1;
    Map<Set<Integer>, Integer> said = new HashMap<>();
    int lastLinkage;

    private static void require(boolean isSo, RuntimeException otherwise) {
        if (!isSo) {
            throw otherwise;
        }
    }

    private static void index(boolean isSo) {
        require(isSo, new IndexOutOfBoundsException());
    }

    private static void argument(boolean isSo) {
        require(isSo, new IllegalArgumentException());
    }

    private static void state(boolean isSo) {
        require(isSo, new IllegalStateException());
    }

    private static boolean within(int x, int least, int greatest) {
        return least <= x && x <= greatest;
    }

    private static int told(Set<Integer> set) {
        return set.stream().mapToInt(k -> (int) Math.pow(2, k)).sum();
    }

    private static Set<Integer> untold(int set) {
        Set<Integer> elements = new TreeSet<>();
        for (int k = 0; k < 32; k++) {
            if ((set & 1 << k) != 0) {
                elements.add(k);
            }
        }
        return elements;
    }

    private static <T> Set<T> common(Set<T> a, Set<T> b) {
        Set<T> both = new HashSet<>(a);
        both.retainAll(b);
        return both;
    }

    private boolean isPiece(int a) {
        return within(a, 0, pieces.size() - 1);
    }

    private void two(int a, int b) {
        index(isPiece(a) && isPiece(b));
        argument(a != b);
    }

    long addPiece(int file, int line, int added, int taken) {
        argument(within(file, 0, 9) && within(line, 0, 9999) && within(added, 0, 999) && within(taken, 0, 999));
        state(pieces.size() < 14);
        Piece p = new Piece();
        p.file = file;
        p.line = line;
        p.added = added;
        p.taken = taken;
        for (int k = 0; k < 4; k++) {
            p.names.add(new TreeSet<>());
        }
        pieces.add(p);
        return pieces.size() - 1;
    }

    long setNames(int piece, int what, int names) {
        long before = names(piece, what);
        argument(within(names, 0, 65535));
        pieces.get(piece).names.set(what, untold(names));
        return before;
    }

    long names(int piece, int what) {
        index(isPiece(piece) && within(what, 0, 3));
        return told(pieces.get(piece).names.get(what));
    }

    long setName(int name, boolean defined, int used) {
        index(within(name, 0, 15));
        argument(within(used, 0, 9));
        boolean isOther = isDefined[name] != defined || uses[name] != used;
        isDefined[name] = defined;
        uses[name] = used;
        return isOther ? 1 : 0;
    }

    long dropPiece() {
        state(!pieces.isEmpty());
        int last = pieces.size() - 1;
        pieces.remove(last);
        said.keySet().removeIf(pair -> pair.contains(last));
        return last;
    }

    long setWeight(int kind, int weight) {
        index(within(kind, 0, 3));
        argument(within(weight, 0, 50));
        int before = weights[kind];
        weights[kind] = weight;
        return before;
    }

    long setSpan(int value) {
        argument(within(value, 0, 999));
        int before = span;
        span = value;
        return before;
    }

    long setThreshold(int value) {
        argument(within(value, 1, 999));
        int before = threshold;
        threshold = value;
        return before;
    }

    long setManner(int value) {
        argument(within(value, 0, 2));
        int before = manner;
        manner = value;
        return before;
    }

    long points(int a, int b, int kind) {
        index(isPiece(a) && isPiece(b) && within(kind, 0, 3));
        argument(a != b);
        Piece p = pieces.get(a);
        Piece q = pieces.get(b);
        int points = 0;
        if (kind == 0) {
            int far = p.line > q.line ? p.line - q.line : q.line - p.line;
            return p.file == q.file && far <= span ? weights[0] : 0;
        }
        if (kind == 3) {
            Set<Integer> one = new HashSet<>();
            Set<Integer> other = new HashSet<>();
            p.names.forEach(one::addAll);
            q.names.forEach(other::addAll);
            Set<Integer> any = new HashSet<>(one);
            any.addAll(other);
            return any.isEmpty() ? 0 : weights[3] * common(one, other).size() / any.size();
        }
        int from = kind == 1 ? 0 : 1;
        int to = kind == 1 ? 2 : 0;
        for (int name = 0; name < 16; name++) {
            points += p.names.get(from).contains(name) && q.names.get(to).contains(name) ? weights[kind] : 0;
            points += q.names.get(from).contains(name) && p.names.get(to).contains(name) ? weights[kind] : 0;
        }
        return points;
    }

    long affinity(int a, int b) {
        two(a, b);
        return points(a, b, 0) + points(a, b, 1) + points(a, b, 2) + points(a, b, 3);
    }

    long closest(int piece) {
        index(isPiece(piece));
        int found = -1;
        for (int k = pieces.size() - 1; k >= 0; k--) {
            if (k != piece && (found < 0 || affinity(piece, k) >= affinity(piece, found))) {
                found = k;
            }
        }
        return found;
    }

    private static int saidIn(Map<Set<Integer>, Integer> sayings, int a, int b) {
        return sayings.getOrDefault(Set.of(a, b), 0);
    }

    private List<Set<Integer>> mustGroups(Map<Set<Integer>, Integer> sayings) {
        int[] mark = new int[pieces.size()];
        for (int k = 0; k < mark.length; k++) {
            mark[k] = k;
        }
        for (Map.Entry<Set<Integer>, Integer> saying : sayings.entrySet()) {
            if (saying.getValue() == 1) {
                List<Integer> pair = new ArrayList<>(saying.getKey());
                int old = mark[pair.get(0)];
                for (int k = 0; k < mark.length; k++) {
                    mark[k] = mark[k] == old ? mark[pair.get(1)] : mark[k];
                }
            }
        }
        Map<Integer, Set<Integer>> byMark = new HashMap<>();
        for (int k = 0; k < mark.length; k++) {
            byMark.computeIfAbsent(mark[k], m -> new TreeSet<>()).add(k);
        }
        List<Set<Integer>> groups = new ArrayList<>(byMark.values());
        inOrder(groups);
        return groups;
    }

    private static int smallest(Set<Integer> set) {
        return set.stream().min(Integer::compare).orElse(-1);
    }

    private static void inOrder(List<Set<Integer>> groups) {
        groups.sort((g, h) -> smallest(g) - smallest(h));
    }

    private static boolean mayBeTogether(Map<Set<Integer>, Integer> sayings, Set<Integer> g, Set<Integer> h) {
        for (int a : g) {
            for (int b : h) {
                if (a != b && saidIn(sayings, a, b) == 2) {
                    return false;
                }
            }
        }
        return true;
    }

    long say(int a, int b, int what) {
        two(a, b);
        argument(within(what, 0, 2));
        Map<Set<Integer>, Integer> then = new HashMap<>(said);
        then.put(Set.of(a, b), what);
        for (Set<Integer> g : mustGroups(then)) {
            state(mayBeTogether(then, g, g));
        }
        int before = saidIn(said, a, b);
        said = then;
        return before;
    }

    private long linkage(Set<Integer> g, Set<Integer> h) {
        List<Long> all = new ArrayList<>();
        for (int a : g) {
            for (int b : h) {
                all.add(affinity(a, b));
            }
        }
        if (manner == 1) {
            return all.stream().mapToLong(k -> k).sum() / all.size();
        }
        all.sort(Long::compare);
        return manner == 0 ? all.get(all.size() - 1) : all.get(0);
    }

    List<Set<Integer>> groups() {
        List<Set<Integer>> groups = mustGroups(said);
        lastLinkage = -1;
        while (true) {
            Set<Integer> first = null;
            Set<Integer> second = null;
            long greatest = -1;
            for (int i = groups.size() - 1; i >= 0; i--) {
                for (int j = groups.size() - 1; j > i; j--) {
                    long link = linkage(groups.get(i), groups.get(j));
                    if (link >= threshold && link >= greatest && mayBeTogether(said, groups.get(i), groups.get(j))) {
                        first = groups.get(i);
                        second = groups.get(j);
                        greatest = link;
                    }
                }
            }
            if (first == null) {
                return groups;
            }
            groups.remove(second);
            first.addAll(second);
            inOrder(groups);
            lastLinkage = (int) greatest;
        }
    }

    private static long at(List<Set<Integer>> sets, int k) {
        index(within(k, 0, sets.size() - 1));
        return told(sets.get(k));
    }

    long group(int k) {
        return at(groups(), k);
    }

    private long placeOf(List<Set<Integer>> sets, int piece) {
        index(isPiece(piece));
        for (Set<Integer> set : sets) {
            if (set.contains(piece)) {
                return sets.indexOf(set);
            }
        }
        return -99;
    }

    long groupOf(int piece) {
        return placeOf(groups(), piece);
    }

    long linkage(int a, int b) {
        List<Set<Integer>> groups = groups();
        index(within(a, 0, groups.size() - 1) && within(b, 0, groups.size() - 1));
        argument(a != b);
        return linkage(groups.get(a), groups.get(b));
    }

    long lastLinkage() {
        groups();
        return lastLinkage;
    }

    boolean needs(int a, int b) {
        two(a, b);
        List<Set<Integer>> p = pieces.get(a).names;
        List<Set<Integer>> q = pieces.get(b).names;
        for (int name = 0; name < 16; name++) {
            if (q.get(0).contains(name) && p.get(2).contains(name) && !isDefined[name]
                || q.get(3).contains(name) && p.get(1).contains(name)
                || q.get(1).contains(name) && p.get(0).contains(name)) {
                return true;
            }
        }
        return false;
    }

    private boolean needs(Set<Integer> g, Set<Integer> h) {
        for (int a : g) {
            for (int b : h) {
                if (a != b && needs(a, b)) {
                    return true;
                }
            }
        }
        return false;
    }

    private void follow(List<Set<Integer>> groups, int from, Set<Integer> seen) {
        for (int k = 0; k < groups.size(); k++) {
            if (k != from && !seen.contains(k) && needs(groups.get(from), groups.get(k))) {
                seen.add(k);
                follow(groups, k, seen);
            }
        }
    }

    /** The sets of groups that make a parcel each, in order. */
    private List<Set<Integer>> circles(List<Set<Integer>> groups) {
        List<Set<Integer>> reached = new ArrayList<>();
        for (int k = 0; k < groups.size(); k++) {
            Set<Integer> seen = new HashSet<>();
            follow(groups, k, seen);
            reached.add(seen);
        }
        Set<Set<Integer>> open = new HashSet<>();
        for (int k = 0; k < groups.size(); k++) {
            Set<Integer> circle = new TreeSet<>(List.of(k));
            for (int other = 0; other < groups.size(); other++) {
                if (reached.get(k).contains(other) && reached.get(other).contains(k)) {
                    circle.add(other);
                }
            }
            open.add(circle);
        }
        List<Set<Integer>> order = new ArrayList<>();
        while (!open.isEmpty()) {
            Set<Integer> next = null;
            for (Set<Integer> circle : open) {
                boolean isReady = true;
                for (Set<Integer> other : open) {
                    isReady &= other == circle || !needs(merged(groups, circle), merged(groups, other));
                }
                if (isReady && (next == null || smallest(circle) < smallest(next))) {
                    next = circle;
                }
            }
            open.remove(next);
            order.add(next);
        }
        return order;
    }

    private static Set<Integer> merged(List<Set<Integer>> groups, Set<Integer> chosen) {
        Set<Integer> all = new TreeSet<>();
        chosen.forEach(k -> all.addAll(groups.get(k)));
        return all;
    }

    List<Set<Integer>> parcels() {
        List<Set<Integer>> groups = groups();
        List<Set<Integer>> parcels = new ArrayList<>();
        circles(groups).forEach(circle -> parcels.add(merged(groups, circle)));
        return parcels;
    }

    long parcel(int k) {
        return at(parcels(), k);
    }

    long parcelOf(int piece) {
        index(isPiece(piece));
        return placeOf(parcels(), piece);
    }

    long knots() {
        return circles(groups()).stream().filter(circle -> circle.size() > 1).count();
    }

    long lines(int parcel) {
        long set = parcel(parcel);
        long sum = 0;
        for (int k : untold((int) set)) {
            sum += pieces.get(k).added + pieces.get(k).taken;
        }
        return sum;
    }

    long broken(int set) {
        argument(set >= 0 && set < Math.pow(2, pieces.size()));
        Set<Integer> found = new TreeSet<>();
        for (int name = 0; name < 16; name++) {
            int definitions = isDefined[name] ? 1 : 0;
            int used = uses[name];
            for (int k : untold(set)) {
                List<Set<Integer>> p = pieces.get(k).names;
                definitions += (p.get(0).contains(name) ? 1 : 0) - (p.get(1).contains(name) ? 1 : 0);
                used += (p.get(2).contains(name) ? 1 : 0) - (p.get(3).contains(name) ? 1 : 0);
            }
            if (definitions > 1 || definitions < 1 && used > 0) {
                found.add(name);
            }
        }
        return told(found);
    }

    long breakage() {
        long sum = 0;
        int applied = 0;
        for (Set<Integer> parcel : parcels()) {
            applied += told(parcel);
            sum += Long.bitCount(broken(applied));
        }
        return sum;
    }

    private long least;
    private List<Integer> bestOrder;

    /** Goes through all orders, the smallest first, and leaves those that have broken too much already. */
    private void search(List<Set<Integer>> parcels, List<Integer> order, int applied, long soFar, Map<Integer, Integer> known) {
        if (least >= 0 && soFar >= least) {
            return;
        }
        if (order.size() == parcels.size()) {
            least = soFar;
            bestOrder = new ArrayList<>(order);
            return;
        }
        for (int k = 0; k < parcels.size(); k++) {
            if (!order.contains(k)) {
                int then = applied + told(parcels.get(k));
                order.add(k);
                int names = known.computeIfAbsent(then, set -> Long.bitCount(broken(set)));
                search(parcels, order, then, soFar + names, known);
                order.remove(order.size() - 1);
            }
        }
    }

    private void searchBest() {
        List<Set<Integer>> parcels = parcels();
        state(parcels.size() <= 9);
        least = -1;
        search(parcels, new ArrayList<>(), 0, 0, new HashMap<>());
    }

    long leastBreakage() {
        searchBest();
        return least;
    }

    long best(int place) {
        searchBest();
        index(within(place, 0, bestOrder.size() - 1));
        return bestOrder.get(place);
    }

    long setPurpose(int piece, int purpose) {
        index(isPiece(piece));
        argument(within(purpose, 0, 9));
        int before = pieces.get(piece).purpose;
        pieces.get(piece).purpose = purpose;
        return before;
    }

    double agreement() {
        List<Set<Integer>> groups = groups();
        double pairs = 0;
        double agreed = 0;
        for (int a = 0; a < pieces.size(); a++) {
            for (int b = a + 1; b < pieces.size(); b++) {
                boolean isSame = pieces.get(a).purpose == pieces.get(b).purpose;
                pairs++;
                agreed += isSame == (placeOf(groups, a) == placeOf(groups, b)) ? 1 : 0;
            }
        }
        return pairs == 0 ? 1 : agreed / pairs;
    }

    long digest() {
        List<Long> numbers = new ArrayList<>();
        numbers.add((long) pieces.size());
        for (int k = 0; k < pieces.size(); k++) {
            Piece p = pieces.get(k);
            numbers.addAll(List.of((long) p.file, (long) p.line, (long) p.added, (long) p.taken));
            numbers.addAll(List.of(names(k, 0), names(k, 1), names(k, 2), names(k, 3), (long) p.purpose));
        }
        for (int weight : weights) {
            numbers.add((long) weight);
        }
        numbers.addAll(List.of((long) span, (long) threshold, (long) manner));
        for (int name = 0; name < 16; name++) {
            numbers.add(isDefined[name] ? 1L : 0L);
            numbers.add((long) uses[name]);
        }
        for (List<Set<Integer>> sets : List.of(groups(), parcels())) {
            numbers.add((long) sets.size());
            sets.forEach(set -> numbers.add((long) told(set)));
        }
        numbers.add(breakage());
        long d = 173;
        for (long x : numbers) {
            d = d * 31 + x;
        }
        return d;
    }
}
