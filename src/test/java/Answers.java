/**
 * Everything that an object answers, in one text: two objects in the same state have the same one. It takes some 400
 * calls, so an object can be asked once: no more than 512 calls of an object are promised.
 */
final class Answers {
    /** Of more pieces than these not all pairs are asked, as the calls would be too many. */
    private static final int FEW = 6;

    private final ChangeUntangler x;
    private final int pieces;
    private final StringBuilder text = new StringBuilder();

    private Answers(ChangeUntangler x) {
        this.x = x;
        pieces = x.pieceCount();
    }

    static String of(ChangeUntangler x) {
        Answers answers = new Answers(x);
        answers.askOfPieces();
        answers.askOfPairs();
        answers.askOfGroups();
        answers.askOfParcels();
        answers.askWhatSettersAnswer();
        // the setters made the object forget what it had worked out, so this is worked out anew
        answers.askOfAll();
        return answers.text.toString();
    }

    private void put(String name, long answer) {
        text.append(name).append(' ').append(answer).append('\n');
    }

    private void askOfPieces() {
        put("pieceCount", pieces);
        for (int piece = 0; piece < pieces; piece++) {
            for (int what = 0; what < 4; what++) {
                put("names", x.names(piece, what));
            }
            put("closest", x.closest(piece));
            put("groupOf", x.groupOf(piece));
            put("parcelOf", x.parcelOf(piece));
            put("broken", x.broken(1 << piece));
        }
        put("broken", x.broken((1 << pieces) - 1));
    }

    private boolean isAsked(int a, int b) {
        return pieces <= FEW || a == 0 || b == a + 1;
    }

    private void askOfPairs() {
        for (int b = 1; b < pieces; b++) {
            for (int a = 0; a < b; a++) {
                if (isAsked(a, b)) {
                    put("affinity", x.affinity(a, b));
                    put("needs", x.needs(a, b) ? 1 : 0);
                    put("needs", x.needs(b, a) ? 1 : 0);
                    for (int kind = 0; kind < 4 && pieces <= FEW; kind++) {
                        put("points", x.points(a, b, kind));
                    }
                }
            }
        }
    }

    private void askOfGroups() {
        int count = x.groupCount();
        put("groupCount", count);
        for (int group = 0; group < count; group++) {
            put("group", x.group(group));
            if (group > 0) {
                put("linkage", x.linkage(group - 1, group));
            }
        }
        put("lastLinkage", x.lastLinkage());
    }

    private void askOfParcels() {
        int count = x.parcelCount();
        put("parcelCount", count);
        for (int parcel = 0; parcel < count; parcel++) {
            put("parcel", x.parcel(parcel));
            put("lines", x.lines(parcel));
        }
        put("knots", x.knots());
        askOfAll();
        for (int place = 0; place < count && count <= 9; place++) {
            put("best", x.best(place));
        }
    }

    private void askOfAll() {
        put("breakage", x.breakage());
        if (x.parcelCount() <= 9) {
            put("leastBreakage", x.leastBreakage());
        }
        text.append("agreement ").append(x.agreement()).append('\n');
        put("digest", x.digest());
    }

    /** What was said can be seen only by saying something else, which is then taken back. */
    private void askWhatSettersAnswer() {
        for (int b = 1; b < pieces; b++) {
            for (int a = 0; a < b; a++) {
                if (isAsked(a, b)) {
                    int said = x.say(a, b, 0);
                    put("say", said);
                    x.say(b, a, said);
                }
            }
        }
        for (int kind = 0; kind < 4; kind++) {
            int weight = x.setWeight(kind, 0);
            put("setWeight", weight);
            x.setWeight(kind, weight);
        }
        int span = x.setSpan(0);
        put("setSpan", span);
        x.setSpan(span);
        int threshold = x.setThreshold(1);
        put("setThreshold", threshold);
        x.setThreshold(threshold);
        int manner = x.setManner(0);
        put("setManner", manner);
        x.setManner(manner);
    }
}
