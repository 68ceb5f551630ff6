import java.util.Arrays;
import java.util.Random;

/** Runs of calls drawn by fixed seeds, each answer held against the plain model's. */
public final class ModelTest {
    private static final int RUNS = 1500;
    private static final int CALLS = 512;
    private static final String[] NAMES = {"letter", "blank", "fault", "list", "about", "as", "person", "heir", "buy",
        "lend", "peace", "death", "mayHarm", "harm", "season", "comeBy", "marry", "wills", "left", "register", "forget",
        "lapsed", "years", "image", "restore", "count", "digest"};
    // How often each call is drawn; deaths, peaces and lists seldom, so that a run lasts.
    private static final int[] SHARES = {8, 1, 3, 1, 20, 6, 20, 14, 30, 25, 2, 2, 15, 12, 5, 25, 8, 15, 10, 10, 1, 10,
        10, 2, 3, 10, 20};

    private final Random random;
    private final ClosedFeuds real = new ClosedFeuds();
    private final PlainModel model = new PlainModel();
    private final Tally tally;
    private final String run;
    private int calls = 0;

    private ModelTest(int run, Tally tally) {
        this.random = new Random(run);
        this.tally = tally;
        this.run = "run " + run;
    }

    public static void main(String[] args) {
        Tally tally = new Tally();
        for (int run = 0; run < RUNS && tally.wrongSoFar() == 0; run++) {
            new ModelTest(run, tally).play(run);
        }
        tally.end();
    }

    private void play(int number) {
        if (number % 20 != 0) {
            readList();
        }
        while (calls < CALLS) {
            int call = drawCall();
            if (call == 3 && random.nextInt(4) != 0) {
                readList();
            } else if (call == 0 && random.nextInt(3) == 0) {
                writeFaulty();
            } else {
                compare(call, number(call, 0), number(call, 1), number(call, 2));
            }
        }
    }

    private int drawCall() {
        int at = random.nextInt(Arrays.stream(SHARES).sum());
        int call = 0;
        while (at >= SHARES[call]) {
            at -= SHARES[call];
            call++;
        }
        return call;
    }

    /** Mostly a number that the call knows, seldom one far off. */
    private int number(int call, int place) {
        int odd = random.nextInt(60);
        if (odd == 0) {
            return random.nextInt();
        }
        if (odd == 1) {
            return -random.nextInt(3);
        }
        String bounds = switch (NAMES[call]) {
            case "letter" -> "z";
            case "about" -> "99";
            case "as" -> "96";
            case "person" -> "66";
            case "heir", "mayHarm", "harm", "register" -> "66";
            case "buy" -> "692";
            case "lend" -> "926";
            case "peace" -> "9";
            case "death" -> "6";
            case "comeBy" -> "662";
            case "marry", "lapsed" -> "2";
            case "wills" -> "s6";
            case "left" -> "392";
            case "years" -> "yi4";
            case "count" -> "9";
            default -> "";
        };
        char bound = place < bounds.length() ? bounds.charAt(place) : '1';
        return switch (bound) {
            case 'z' -> random.nextInt(127);
            case 's' -> random.nextInt(64);
            case 'y' -> 1 + random.nextInt(60);
            case 'i' -> random.nextInt(Integer.MAX_VALUE);
            default -> random.nextInt(bound - '0');
        };
    }

    private String drawList() {
        StringBuilder text = new StringBuilder();
        int feuds = 1 + random.nextInt(8);
        int people = 2 + random.nextInt(5);
        for (int feud = 0; feud < feuds; feud++) {
            text.append(feud == 0 ? "" : ",");
            text.append(new String[] {"", "b", "j", "g", "p"}[random.nextInt(5)]);
            int one = random.nextInt(people);
            int other = (one + 1 + random.nextInt(people - 1)) % people;
            text.append(one).append(other).append(1 + random.nextInt(random.nextBoolean() ? 9 : 3));
        }
        return text.toString();
    }

    private void write(String text) {
        for (int i = 0; i < text.length() && calls < CALLS; i++) {
            compare(0, text.charAt(i), 0, 0);
        }
    }

    private void readList() {
        compare(1, 0, 0, 0);
        write(drawList());
        compare(2, 0, 0, 0);
        compare(3, 0, 0, 0);
    }

    private void writeFaulty() {
        compare(1, 0, 0, 0);
        StringBuilder text = new StringBuilder(drawList());
        text.append(",012,013");
        text.setCharAt(random.nextInt(text.length()), "0123456789,bjgpx".charAt(random.nextInt(16)));
        text.setLength(1 + random.nextInt(text.length()));
        write(text.toString());
        compare(2, 0, 0, 0);
        compare(3, 0, 0, 0);
    }

    private void compare(int call, int p, int q, int r) {
        if (calls >= CALLS) {
            return;
        }
        calls++;
        String told = run + ", call " + calls + ": " + NAMES[call] + " of " + p + ", " + q + ", " + r;
        long want = ofModel(call, p, q, r);
        tally.due(told, ofReal(call, p, q, r), want);
    }

    private long ofReal(int call, int p, int q, int r) {
        return switch (NAMES[call]) {
            case "letter" -> real.letter(p);
            case "blank" -> real.blank();
            case "fault" -> real.fault();
            case "list" -> real.list();
            case "about" -> real.about(p, q);
            case "as" -> real.as(p, q);
            case "person" -> real.person(p, q);
            case "heir" -> real.heir(p, q);
            case "buy" -> real.buy(p, q, r);
            case "lend" -> real.lend(p, q, r);
            case "peace" -> real.peace(p);
            case "death" -> real.death(p);
            case "mayHarm" -> real.mayHarm(p, q);
            case "harm" -> real.harm(p, q);
            case "season" -> real.season();
            case "comeBy" -> real.comeBy(p, q, r);
            case "marry" -> real.marry(p);
            case "wills" -> real.wills(p, q);
            case "left" -> real.left(p, q, r);
            case "register" -> real.register(p, q);
            case "forget" -> real.forget();
            case "lapsed" -> real.lapsed(p);
            case "years" -> real.years(p, q, r);
            case "image" -> real.image();
            case "restore" -> real.restore();
            case "count" -> real.count(p);
            default -> real.digest();
        };
    }

    private long ofModel(int call, int p, int q, int r) {
        return switch (NAMES[call]) {
            case "letter" -> model.letter(p);
            case "blank" -> model.blank();
            case "fault" -> model.fault();
            case "list" -> model.list();
            case "about" -> model.about(p, q);
            case "as" -> model.as(p, q);
            case "person" -> model.person(p, q);
            case "heir" -> model.heir(p, q);
            case "buy" -> model.buy(p, q, r);
            case "lend" -> model.lend(p, q, r);
            case "peace" -> model.peace(p);
            case "death" -> model.death(p);
            case "mayHarm" -> model.mayHarm(p, q);
            case "harm" -> model.harm(p, q);
            case "season" -> model.season();
            case "comeBy" -> model.comeBy(p, q, r);
            case "marry" -> model.marry(p);
            case "wills" -> model.wills(p, q);
            case "left" -> model.left(p, q, r);
            case "register" -> model.register(p, q);
            case "forget" -> model.forget();
            case "lapsed" -> model.lapsed(p);
            case "years" -> model.years(p, q, r);
            case "image" -> model.image();
            case "restore" -> model.restore();
            case "count" -> model.count(p);
            default -> model.digest();
        };
    }
}
