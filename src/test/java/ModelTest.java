import java.util.Random;
import java.util.function.DoubleSupplier;

/** Runs of calls by chance (the same at each start), answered by the class and by the model of the document. */
public final class ModelTest {
    private static final int RUNS = 250;
    /** With the calls that fill an object and ask for its groups they stay below the 512 that it is used for. */
    private static final int CALLS = 120;
    private static final int KINDS_OF_CALL = 32;

    private final Random random;
    private final ChangeUntangler x = new ChangeUntangler();
    private final Model model = new Model();
    private final int run;
    private final int mostPieces;
    private final int nameRange;
    private String log = "";

    private ModelTest(int run) {
        this.run = run;
        random = new Random(run);
        mostPieces = 1 + random.nextInt(14);
        nameRange = 1 + random.nextInt(16);
    }

    public static void main(String[] args) {
        int runs = args.length > 0 ? Integer.parseInt(args[0]) : RUNS;
        for (int run = 0; run < runs && Check.wrong() == 0; run++) {
            new ModelTest(run).play();
        }
        Check.end();
    }

    private static String answer(DoubleSupplier call) {
        try {
            return Double.toString(call.getAsDouble());
        } catch (RuntimeException e) {
            return "throws." + e.getClass().getSimpleName();
        }
    }

    private void both(String call, DoubleSupplier due, DoubleSupplier got) {
        log = log + "\n  " + call;
        Check.same("run " + run + log + "\n ", answer(due), answer(got));
    }

    private void play() {
        int first = random.nextInt(mostPieces + 1);
        for (int k = 0; k < first; k++) {
            addPiece();
            setNames();
        }
        for (int k = 0; k < CALLS && Check.wrong() == 0; k++) {
            if (random.nextInt(3) == 0) {
                setNames();
            }
            call(random.nextInt(KINDS_OF_CALL));
            if (random.nextInt(5) == 0) {
                Check.same("run " + run + log + "\n  digest", model.digest(), x.digest());
            }
        }
    }

    /** Mostly a number from 0 to the greatest, sometimes one beside it or far off. */
    private int number(int greatest) {
        int[] odd = {-1, greatest + 1, greatest, 0, Integer.MAX_VALUE, Integer.MIN_VALUE, 32 + greatest};
        return random.nextInt(12) == 0 ? odd[random.nextInt(odd.length)] : random.nextInt(greatest + 1);
    }

    private int piece() {
        return number(Math.max(0, model.pieces.size() - 1));
    }

    private int someNames() {
        int names = random.nextInt(1 << nameRange) & random.nextInt(1 << nameRange);
        for (int k = random.nextInt(3); k > 0; k--) {
            names &= random.nextInt(1 << nameRange);
        }
        return names;
    }

    private void addPiece() {
        int file = number(random.nextBoolean() ? 9 : 1);
        int line = number(random.nextInt(4) == 0 ? 9999 : 80);
        int added = number(999);
        int taken = number(999);
        both("addPiece(" + file + ", " + line + ", " + added + ", " + taken + ")",
            () -> model.addPiece(file, line, added, taken), () -> x.addPiece(file, line, added, taken));
    }

    private void setNames() {
        int piece = piece();
        int what = number(3);
        int names = random.nextInt(12) == 0 ? number(65535) : someNames();
        both("setNames(" + piece + ", " + what + ", " + names + ")",
            () -> model.setNames(piece, what, names), () -> x.setNames(piece, what, names));
    }

    private void call(int kind) {
        if (kind < 11) {
            set(kind);
        } else if (kind < 22) {
            askOfGroups(kind);
        } else {
            askOfParcels(kind);
        }
    }

    private void set(int kind) {
        int a = piece();
        int b = piece();
        switch (kind) {
            case 0: case 1: {
                if (model.pieces.size() < mostPieces || random.nextInt(10) == 0) {
                    addPiece();
                }
                break;
            }
            case 2: {
                int name = number(15);
                boolean defined = random.nextBoolean();
                int uses = number(random.nextBoolean() ? 9 : 1);
                both("setName(" + name + ", " + defined + ", " + uses + ")",
                    () -> model.setName(name, defined, uses), () -> x.setName(name, defined, uses) ? 1 : 0);
                break;
            }
            case 3: {
                both("dropPiece()", () -> model.dropPiece(), () -> x.dropPiece());
                break;
            }
            case 4: {
                int weight = number(random.nextBoolean() ? 50 : 10);
                int of = number(3);
                both("setWeight(" + of + ", " + weight + ")",
                    () -> model.setWeight(of, weight), () -> x.setWeight(of, weight));
                break;
            }
            case 5: {
                int span = number(random.nextBoolean() ? 999 : 40);
                both("setSpan(" + span + ")", () -> model.setSpan(span), () -> x.setSpan(span));
                break;
            }
            case 6: {
                int threshold = number(random.nextInt(4) == 0 ? 999 : 25);
                both("setThreshold(" + threshold + ")",
                    () -> model.setThreshold(threshold), () -> x.setThreshold(threshold));
                break;
            }
            case 7: {
                int manner = number(2);
                both("setManner(" + manner + ")", () -> model.setManner(manner), () -> x.setManner(manner));
                break;
            }
            case 8: case 9: {
                int what = number(2);
                both("say(" + a + ", " + b + ", " + what + ")", () -> model.say(a, b, what), () -> x.say(a, b, what));
                break;
            }
            default: {
                int purpose = number(random.nextBoolean() ? 9 : 2);
                both("setPurpose(" + a + ", " + purpose + ")",
                    () -> model.setPurpose(a, purpose), () -> x.setPurpose(a, purpose));
            }
        }
    }

    private void askOfGroups(int kind) {
        int a = piece();
        int b = piece();
        int g = number(Math.max(0, x.groupCount() - 1));
        int h = number(Math.max(0, x.groupCount() - 1));
        switch (kind) {
            case 11: {
                int what = number(3);
                both("names(" + a + ", " + what + ")", () -> model.names(a, what), () -> x.names(a, what));
                break;
            }
            case 12:
                both("pieceCount()", () -> model.pieces.size(), () -> x.pieceCount());
                break;
            case 13: {
                int of = number(3);
                both("points(" + a + ", " + b + ", " + of + ")", () -> model.points(a, b, of), () -> x.points(a, b, of));
                break;
            }
            case 14:
                both("affinity(" + a + ", " + b + ")", () -> model.affinity(a, b), () -> x.affinity(a, b));
                break;
            case 15:
                both("closest(" + a + ")", () -> model.closest(a), () -> x.closest(a));
                break;
            case 16:
                both("groupCount()", () -> model.groups().size(), () -> x.groupCount());
                break;
            case 17:
                both("group(" + g + ")", () -> model.group(g), () -> x.group(g));
                break;
            case 18:
                both("groupOf(" + a + ")", () -> model.groupOf(a), () -> x.groupOf(a));
                break;
            case 19:
                both("linkage(" + g + ", " + h + ")", () -> model.linkage(g, h), () -> x.linkage(g, h));
                break;
            case 20:
                both("lastLinkage()", () -> model.lastLinkage(), () -> x.lastLinkage());
                break;
            default:
                both("needs(" + a + ", " + b + ")", () -> model.needs(a, b) ? 1 : 0, () -> x.needs(a, b) ? 1 : 0);
        }
    }

    private void askOfParcels(int kind) {
        int a = piece();
        int k = number(Math.max(0, x.parcelCount() - 1));
        switch (kind) {
            case 22:
                both("parcelCount()", () -> model.parcels().size(), () -> x.parcelCount());
                break;
            case 23:
                both("parcel(" + k + ")", () -> model.parcel(k), () -> x.parcel(k));
                break;
            case 24:
                both("parcelOf(" + a + ")", () -> model.parcelOf(a), () -> x.parcelOf(a));
                break;
            case 25:
                both("knots()", () -> model.knots(), () -> x.knots());
                break;
            case 26:
                both("lines(" + k + ")", () -> model.lines(k), () -> x.lines(k));
                break;
            case 27: {
                int set = number((1 << model.pieces.size()) - 1);
                both("broken(" + set + ")", () -> model.broken(set), () -> x.broken(set));
                break;
            }
            case 28:
                both("breakage()", () -> model.breakage(), () -> x.breakage());
                break;
            case 29:
                both("leastBreakage()", () -> model.leastBreakage(), () -> x.leastBreakage());
                break;
            case 30:
                both("best(" + k + ")", () -> model.best(k), () -> x.best(k));
                break;
            default:
                both("agreement()", () -> model.agreement(), () -> x.agreement());
        }
    }
}
