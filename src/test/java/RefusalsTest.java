import java.util.Arrays;
import java.util.function.Supplier;

/**
 * Of several refusals the first as told by each call, and that they change nothing: each call with all numbers at
 * the edges together, in unlike states. What is due is told by the refusals alone, as each promise lists them.
 */
public final class RefusalsTest extends ByHand {
    private static final int[] EDGES = {LOW, -2, -1, 0, 1, 2, 3, 4, 5, 6, 7, 8, 9, HIGH};
    private static final int[] EDGES_OF_SETS = {LOW, -1, 0, 1, 62, 63, 64, 65, HIGH};
    private static final int[] EDGES_OF_YEARS = {LOW, -1, 0, 1, 2, 59, 60, 61, HIGH};
    private static final int[] EDGES_OF_CODES = {LOW, -1, 0, 1, 2, 125, 126, 127, 128, HIGH};
    private static final int[] NO_NUMBER = {0};
    private static final int NOT_REFUSED = 0;

    private interface Call {
        long answer(ClosedFeuds x, int p, int q, int r);
    }

    /** The refusal that is due, by the state and the three numbers. */
    private interface Rule {
        int refusal(ClosedFeuds x, int p, int q, int r);
    }

    private final String state;
    private final Supplier<ClosedFeuds> make;
    private final long[] untouched;

    private RefusalsTest(String state, Supplier<ClosedFeuds> make) {
        this.state = state;
        this.make = make;
        this.untouched = trace(make.get());
    }

    public static void main(String[] args) {
        new RefusalsTest("no LIST", ClosedFeuds::new).allCalls();
        new RefusalsTest("no LIST, full", RefusalsTest::fullWithoutAList).allCalls();
        new RefusalsTest("one FEUD", () -> read("b011")).allCalls();
        new RefusalsTest("eight FEUDS", RefusalsTest::eight).allCalls();
        new RefusalsTest("much has been", RefusalsTest::muchHasBeen).allCalls();
        new RefusalsTest("full", RefusalsTest::full).allCalls();
        new RefusalsTest("all dead", RefusalsTest::allDead).allCalls();
        tally.end();
    }

    private static ClosedFeuds fullWithoutAList() {
        ClosedFeuds x = new ClosedFeuds();
        write(x, "0123456789012345678901234567890123456789");
        for (int many = 0; many < 8; many++) {
            x.register(many % 6, (many + 1) % 6);
        }
        return x;
    }

    private static ClosedFeuds eight() {
        ClosedFeuds x = read("b011,j122,g233,p344,455,b506,g027,138");
        x.image();
        x.register(0, 3);
        return x;
    }

    private static ClosedFeuds muchHasBeen() {
        ClosedFeuds x = read("b011,j122,g233,p344,455,b506,g027,138");
        x.heir(0, 3);
        x.harm(0, 1);
        x.register(2, 5);
        x.image();
        x.lend(0, 0, 4);
        x.lend(2, 1, 5);
        x.peace(4);
        x.death(3);
        x.buy(0, 1, 1);
        x.register(1, 2);
        write(x, "01x");
        return x;
    }

    private static ClosedFeuds full() {
        ClosedFeuds x = read("b011,j122,g233,p344");
        for (int many = 0; many < 12; many++) {
            x.harm(0, 1);
        }
        for (int many = 0; many < 8; many++) {
            x.register(0, 1);
        }
        x.image();
        x.heir(1, 0);
        write(x, "b011,j122,g233,p344,b455,j506,g027,p138,");
        return x;
    }

    private static ClosedFeuds allDead() {
        ClosedFeuds x = read("b011,j122,g233");
        x.image();
        for (int one = 0; one <= 5; one++) {
            x.death(one);
        }
        return x;
    }

    /** What an object tells, of now and, behind restore(), of its IMAGE. */
    private static long[] trace(ClosedFeuds x) {
        long[] told = new long[16];
        told[0] = x.digest();
        told[1] = x.fault();
        told[2] = x.left(2, 1, 0);
        told[3] = x.years(9, 5, 3);
        for (int one = 0; one <= 5; one++) {
            told[4 + one] = x.wills(5, one);
        }
        told[10] = x.comeBy(2, 4, 0);
        told[11] = x.restore();
        told[12] = x.digest();
        told[13] = x.season();
        told[14] = x.forget();
        told[15] = x.digest();
        return told;
    }

    /** The first in the order in which they are given. */
    private static int first(int... refusals) {
        for (int refusal : refusals) {
            if (refusal != NOT_REFUSED) {
                return refusal;
            }
        }
        return NOT_REFUSED;
    }

    private static int unless(boolean holds, int refusal) {
        return holds ? NOT_REFUSED : refusal;
    }

    private static boolean among(int number, int least, int most) {
        return least <= number && number <= most;
    }

    private static int persons(int... numbers) {
        return unless(Arrays.stream(numbers).allMatch(number -> among(number, 0, 5)), UNKNOWN);
    }

    private static int twoPersons(int a, int b) {
        return first(persons(a, b), unless(a != b, UNKNOWN));
    }

    private static int feud(ClosedFeuds x, int number) {
        return unless(among(number, 0, x.count(0) - 1), UNKNOWN);
    }

    private static int outside(int number, int least, int most) {
        return unless(among(number, least, most), OUTSIDE);
    }

    private static int aList(ClosedFeuds x) {
        return unless(x.count(0) > 0, STATE);
    }

    private static boolean isAlive(ClosedFeuds x, int person) {
        return x.person(person, 2) == 1;
    }

    private static int living(ClosedFeuds x, int person) {
        return among(person, 0, 5) ? unless(isAlive(x, person), STATE) : NOT_REFUSED;
    }

    /** The SIDE's own, by who is on it and who LENT it. */
    private static int whose(ClosedFeuds x, int feud, int side) {
        int lender = x.about(feud, 5 + side);
        return lender != NONE ? lender : x.about(feud, 3 + side);
    }

    private static boolean hasToDo(ClosedFeuds x, int person, int feud) {
        return x.about(feud, 3) == person || x.about(feud, 4) == person || x.about(feud, 5) == person
                || x.about(feud, 6) == person;
    }

    private static boolean canBuy(ClosedFeuds x, int person, int feud, int side) {
        return x.about(feud, 2) == 0 && x.about(feud, 5 + side) == NONE && isAlive(x, person)
                && !hasToDo(x, person, feud) && x.person(person, 0) >= x.about(feud, 7 + side);
    }

    private static boolean canLend(ClosedFeuds x, int feud, int side, int person) {
        boolean kind = x.as(feud, 1) == feud || x.as(feud, 3) == feud;
        return x.about(feud, 2) == 0 && kind && whose(x, feud, side) != NONE && x.about(feud, 5 + side) == NONE
                && isAlive(x, person) && !hasToDo(x, person, feud);
    }

    private static boolean canStrike(ClosedFeuds x, int feud) {
        int open = (whose(x, feud, 0) == NONE ? 1 : 0) + (whose(x, feud, 1) == NONE ? 1 : 0);
        boolean lent = x.about(feud, 5) != NONE || x.about(feud, 6) != NONE;
        return x.about(feud, 2) == 0 && !lent && open <= (x.as(feud, 2) == feud ? 1 : 0);
    }

    private void allCalls() {
        theList();
        people();
        peopleByTwo();
        whatWouldBe();
        registersAndAll();
    }

    private void theList() {
        grid("letter", EDGES_OF_CODES, NO_NUMBER, NO_NUMBER, (x, p, q, r) -> x.letter(p),
                (x, p, q, r) -> first(outside(p, 1, 126), unless(x.count(7) < 40, FULL)));
        grid("about", EDGES, EDGES, NO_NUMBER, (x, p, q, r) -> x.about(p, q),
                (x, p, q, r) -> first(feud(x, p), outside(q, 0, 8)));
        grid("as", EDGES, EDGES, NO_NUMBER, (x, p, q, r) -> x.as(p, q),
                (x, p, q, r) -> first(feud(x, p), outside(q, 0, 4)));
    }

    private void people() {
        grid("person", EDGES, EDGES, NO_NUMBER, (x, p, q, r) -> x.person(p, q),
                (x, p, q, r) -> first(persons(p), outside(q, 0, 5)));
        grid("heir", EDGES, EDGES, NO_NUMBER, (x, p, q, r) -> x.heir(p, q),
                (x, p, q, r) -> first(persons(p), unless(among(q, NONE, 5) && p != q, UNKNOWN), aList(x), living(x, p)));
        grid("buy", EDGES, EDGES, EDGES, (x, p, q, r) -> x.buy(p, q, r), (x, p, q, r) -> {
            int named = first(persons(p), feud(x, q), outside(r, 0, 1));
            return named != NOT_REFUSED ? named : unless(canBuy(x, p, q, r), STATE);
        });
        grid("lend", EDGES, EDGES, EDGES, (x, p, q, r) -> x.lend(p, q, r), (x, p, q, r) -> {
            int named = first(feud(x, p), persons(r), outside(q, 0, 1));
            return named != NOT_REFUSED ? named : unless(canLend(x, p, q, r), STATE);
        });
        grid("peace", EDGES, NO_NUMBER, NO_NUMBER, (x, p, q, r) -> x.peace(p),
                (x, p, q, r) -> feud(x, p) != NOT_REFUSED ? UNKNOWN : unless(canStrike(x, p), STATE));
        grid("death", EDGES, NO_NUMBER, NO_NUMBER, (x, p, q, r) -> x.death(p),
                (x, p, q, r) -> first(persons(p), aList(x), living(x, p)));
        grid("season", NO_NUMBER, NO_NUMBER, NO_NUMBER, (x, p, q, r) -> x.season(), (x, p, q, r) -> aList(x));
    }

    private void peopleByTwo() {
        grid("mayHarm", EDGES, EDGES, NO_NUMBER, (x, p, q, r) -> x.mayHarm(p, q), (x, p, q, r) -> twoPersons(p, q));
        grid("harm", EDGES, EDGES, NO_NUMBER, (x, p, q, r) -> x.harm(p, q),
                (x, p, q, r) -> first(twoPersons(p, q), unless(x.mayHarm(p, q) != NONE, STATE), unless(x.count(5) < 12, FULL)));
        grid("register", EDGES, EDGES, NO_NUMBER, (x, p, q, r) -> x.register(p, q),
                (x, p, q, r) -> first(twoPersons(p, q), unless(x.count(6) < 8, FULL)));
        grid("comeBy", EDGES, EDGES, EDGES, (x, p, q, r) -> x.comeBy(p, q, r),
                (x, p, q, r) -> first(twoPersons(p, q), outside(r, 0, 1), aList(x), living(x, p), living(x, q)));
    }

    private void whatWouldBe() {
        grid("marry", EDGES, NO_NUMBER, NO_NUMBER, (x, p, q, r) -> x.marry(p),
                (x, p, q, r) -> first(outside(p, 0, 1), aList(x)));
        grid("wills", EDGES_OF_SETS, EDGES, NO_NUMBER, (x, p, q, r) -> x.wills(p, q),
                (x, p, q, r) -> first(persons(q), outside(p, 0, 63), aList(x)));
        grid("left", EDGES, EDGES, EDGES, (x, p, q, r) -> x.left(p, q, r),
                (x, p, q, r) -> first(outside(p, 1, 2), outside(q, 0, 8), outside(r, 0, 1), aList(x)));
        grid("lapsed", EDGES, NO_NUMBER, NO_NUMBER, (x, p, q, r) -> x.lapsed(p),
                (x, p, q, r) -> first(outside(p, 0, 1), aList(x)));
        grid("years", EDGES_OF_YEARS, EDGES, EDGES, (x, p, q, r) -> x.years(p, q, r),
                (x, p, q, r) -> first(outside(p, 1, 60), outside(q, 0, HIGH), outside(r, 0, 3), aList(x)));
    }

    private void registersAndAll() {
        grid("image", NO_NUMBER, NO_NUMBER, NO_NUMBER, (x, p, q, r) -> x.image(), (x, p, q, r) -> aList(x));
        grid("count", EDGES, NO_NUMBER, NO_NUMBER, (x, p, q, r) -> x.count(p), (x, p, q, r) -> outside(p, 0, 8));
    }

    private void grid(String name, int[] ps, int[] qs, int[] rs, Call call, Rule rule) {
        sentence("Refusals, of several the first as told by " + name + "; they change nothing: " + state);
        for (int p : ps) {
            for (int q : qs) {
                for (int r : rs) {
                    one(name + " of " + p + ", " + q + ", " + r, p, q, r, call, rule);
                }
            }
        }
    }

    private void one(String what, int p, int q, int r, Call call, Rule rule) {
        int refusal = rule.refusal(make.get(), p, q, r);
        ClosedFeuds x = make.get();
        long answer = call.answer(x, p, q, r);
        if (refusal == NOT_REFUSED) {
            due(what + " is not refused", answer >= NONE ? 1 : 0, 1);
        } else {
            due(what, answer, refusal);
            due(what + " changes nothing", Arrays.equals(trace(x), untouched) ? 1 : 0, 1);
        }
    }
}
