import java.math.BigInteger;

/** Each sentence on REGISTERS and YEARS that names a boundary case: "Terms", promises 21 to 24. */
public final class RegisterEdgesTest extends ByHand {
    public static void main(String[] args) {
        eightRegisters();
        registerRefuses();
        forgets();
        fitsAllOrNone();
        sureOfEachPair();
        fitsByFeuds();
        aliveOrNot();
        lapsedRefuses();
        oneYear();
        deathInAYear();
        nobodyAlive();
        seasonOfAYear();
        struckInYears();
        moneyInYears();
        yearsRefuses();
        yearsChangeNothing();
        tally.end();
    }

    private static void eightRegisters() {
        sentence("21: how many there are; REGISTERS (8 at most); FULL");
        for (ClosedFeuds x : new ClosedFeuds[] {new ClosedFeuds(), read("011")}) {
            for (int many = 1; many <= 8; many++) {
                due("register " + many, x.register(0, 1 + many % 5), many);
                due("count", x.count(6), many);
            }
            refused("register 9", x, () -> x.register(0, 1), FULL);
            refused("register 9 of others", x, () -> x.register(4, 5), FULL);
            due("count", x.count(6), 8);
            sentence("21: UNKNOWN is told ahead of FULL");
            refused("unknown, and full", x, () -> x.register(6, 0), UNKNOWN);
            refused("the same, and full", x, () -> x.register(0, 0), UNKNOWN);
            sentence("22: how many there were");
            due("forget eight", x.forget(), 8);
            due("there is room again", x.register(5, 4), 1);
        }
    }

    private static void registerRefuses() {
        sentence("21: UNKNOWN: a, b, or they are the same");
        ClosedFeuds x = read("011");
        for (int one : NO_PERSON) {
            refused("a " + one, x, () -> x.register(one, 0), UNKNOWN);
            refused("b " + one, x, () -> x.register(0, one), UNKNOWN);
            refused("both " + one, x, () -> x.register(one, one), UNKNOWN);
        }
        for (int one = 0; one <= 5; one++) {
            int same = one;
            refused("the same " + one, x, () -> x.register(same, same), UNKNOWN);
        }
        x.death(5);
        due("a dead one, and no FEUD between", x.register(5, 2), 1);
        due("of a dead one", x.register(2, 5), 2);
        due("the same two again", x.register(2, 5), 3);
    }

    private static void forgets() {
        sentence("22: all REGISTERS are gone: how many there were");
        ClosedFeuds x = read("011");
        due("none", x.forget(), 0);
        x.register(2, 3);
        x.register(3, 4);
        x.harm(0, 1);
        due("two", x.forget(), 2);
        due("none again", x.forget(), 0);
        due("count", x.count(6), 0);
        due("HARMS stay", x.count(5), 1);
        due("FITS as at first", x.lapsed(0), 15);
        ClosedFeuds none = new ClosedFeuds();
        due("no LIST", none.forget(), 0);
        none.register(0, 1);
        due("no LIST, one", none.forget(), 1);
    }

    private static void dueLapsed(String what, ClosedFeuds x, int fits, int sure) {
        due(what + ": FITS", x.lapsed(0), fits);
        due(what + ": SURE", x.lapsed(1), sure);
    }

    private static void fitsAllOrNone() {
        sentence("23: how many pairs could have been its SIDES; SURE, if there is one such pair alone (NONE)");
        ClosedFeuds x = read("011");
        dueLapsed("no REGISTERS: all fifteen", x, 15, NONE);
        x.register(0, 1);
        x.register(1, 0);
        dueLapsed("told by a FEUD: all fifteen", x, 15, NONE);
        x.register(2, 3);
        dueLapsed("one", x, 1, 15);
        x.register(3, 2);
        x.register(2, 3);
        dueLapsed("the same two, either way round", x, 1, 15);
        x.register(3, 4);
        dueLapsed("two unlike ones: none", x, 0, NONE);
    }

    private static void sureOfEachPair() {
        sentence("23: SURE: 6 times the lesser number and the greater one");
        for (int lesser = 0; lesser <= 5; lesser++) {
            for (int greater = lesser + 1; greater <= 5; greater++) {
                ClosedFeuds x = read("011");
                x.peace(0);
                x.register(lesser, greater);
                dueLapsed(lesser + " harmed " + greater, x, 1, 6 * lesser + greater);
                x.forget();
                x.register(greater, lesser);
                dueLapsed(greater + " harmed " + lesser, x, 1, 6 * lesser + greater);
            }
        }
    }

    private static void fitsByFeuds() {
        sentence("23: or between two who are on both SIDES of a FEUD that is not STRUCK");
        ClosedFeuds x = read("b011,231");
        x.register(1, 0);
        x.register(2, 3);
        dueLapsed("both told by FEUDS", x, 15, NONE);
        x.peace(1);
        dueLapsed("one is STRUCK", x, 1, 15);
        x.lend(0, 0, 4);
        dueLapsed("who LENT it is not on it", x, 0, NONE);
        x.forget();
        x.register(4, 1);
        dueLapsed("to whom it is LENT", x, 15, NONE);
        x.season();
        dueLapsed("it is back", x, 1, 10);
        x.buy(4, 0, 0);
        dueLapsed("bought", x, 15, NONE);
        x.death(1);
        dueLapsed("the other SIDE is OPEN", x, 1, 10);
    }

    private static void aliveOrNot() {
        sentence("23: between two PEOPLE (alive or not)");
        ClosedFeuds x = read("011");
        for (int one = 0; one <= 5; one++) {
            x.death(one);
        }
        dueLapsed("all dead", x, 15, NONE);
        x.register(4, 2);
        dueLapsed("two dead ones", x, 1, 16);
    }

    private static void lapsedRefuses() {
        sentence("23: OUTSIDE; STATE: no LIST");
        ClosedFeuds x = read("011");
        ClosedFeuds none = new ClosedFeuds();
        none.register(0, 1);
        for (int what : new int[] {-1, 2, LOW, HIGH}) {
            refused("what " + what, x, () -> x.lapsed(what), OUTSIDE);
            refused("what " + what + ", no LIST", none, () -> none.lapsed(what), OUTSIDE);
        }
        refused("no LIST, 0", none, () -> none.lapsed(0), STATE);
        refused("no LIST, 1", none, () -> none.lapsed(1), STATE);
    }

    private static void dueYears(String what, ClosedFeuds x, int years, int seed, int... want) {
        for (int told = 0; told <= 3; told++) {
            due(what + ", " + told, x.years(years, seed, told), want[told]);
        }
    }

    private static void oneYear() {
        sentence("24: DRAWS: the next SEED each time, its rest by 2 to the 31; seed (0 at least)");
        // PERSON 0, FEUD 0, SIDE 0; PERSON 1, who lives (2 of 4).
        dueYears("seed 0, he HAS TO DO", read("011"), 1, 0, 6, 66, 0, 229283573);
        // PERSON 5, FEUD 0, SIDE 0; PERSON 0, who lives (1 of 4).
        dueYears("the greatest seed", read("011"), 1, HIGH, 6, 66, 0, 571035320);
        // PERSON 4, FEUD 0, SIDE 0; PERSON 1, who dies (0 of 4).
        ClosedFeuds x = read("015");
        dueYears("seed 8", x, 1, 8, 5, 55, 1, 1790236893);
        x.heir(1, 4);
        dueYears("seed 8, with an HEIR who has bought the other SIDE", x, 1, 8, 5, 64, 1, 1790236893);
        x.heir(1, 2);
        dueYears("seed 8, with another HEIR", x, 1, 8, 5, 64, 0, 1790236893);
        // PERSON 3, FEUD 0, SIDE 1; PERSON 2, who dies (0 of 4).
        ClosedFeuds side1 = read("215");
        side1.heir(2, 3);
        dueYears("seed 11, his HEIR has bought SIDE 1", side1, 1, 11, 5, 64, 1, 764981652);
        side1.heir(2, 1);
        dueYears("seed 11, his HEIR has sold SIDE 1", side1, 1, 11, 5, 64, 0, 764981652);
        x.peace(0);
        dueYears("seed 8, STRUCK", x, 1, 8, 5, 64, 0, 1790236893);
    }

    private static int seedBehind(int seed, int draws) {
        BigInteger at = BigInteger.valueOf(seed);
        for (int i = 0; i < draws; i++) {
            at = at.multiply(BigInteger.valueOf(1103515245)).add(BigInteger.valueOf(12345)).mod(BigInteger.TWO.pow(31));
        }
        return at.intValueExact();
    }

    private static void deathInAYear() {
        sentence("24: if he is alive, he dies, if a DRAW of 4 is 0");
        ClosedFeuds x = read("015");
        due("five DRAWS", x.years(1, 8, 3), seedBehind(8, 5));
        x.death(1);
        due("four, if he is dead", x.years(1, 8, 3), seedBehind(8, 4));
        due("nobody dies then", x.years(1, 8, 0), 5);
        // 4 buys SIDE 0 at half the PRICE; SIDE 1 stays OPEN; five have 2 more.
        due("MONEY", x.years(1, 8, 1), 55);
        due("OPEN", x.years(1, 8, 2), 1);
    }

    private static void nobodyAlive() {
        sentence("24: years (1 to 60), MONEY of all (also dead ones), how many SIDES are OPEN, the SEED then");
        ClosedFeuds x = read("011,b231,j451,011,011,011,011,011");
        for (int one = 0; one <= 5; one++) {
            x.death(one);
        }
        for (int years : new int[] {1, 2, 59, 60}) {
            for (int seed : new int[] {0, 1, HIGH - 1, HIGH}) {
                dueYears("all dead, " + years + " from " + seed, x, years, seed, 0, 0, 16, seedBehind(seed, 4 * years));
            }
        }
    }

    private static void seasonOfAYear() {
        sentence("24: he BUYS it, if he can; then the SEASON ends");
        ClosedFeuds x = read("b012");
        x.lend(0, 0, 2);
        // In year 1 of seed 8 PERSON 4 can't buy SIDE 0, as it is LENT; 1 dies.
        dueYears("LENT", x, 1, 8, 5, 55, 1, 1790236893);
        due("still LENT", x.count(4), 1);
        ClosedFeuds dear = read("g019");
        dueYears("too dear", dear, 1, 8, 5, 55, 1, 1790236893);
    }

    private static void struckInYears() {
        sentence("24: by a DRAW of how many FEUDS there are one of these");
        ClosedFeuds x = read("011,235");
        x.peace(0);
        x.death(2);
        // PERSON 4, FEUD 0, SIDE 0; PERSON 0, who lives (3 of 4).
        dueYears("seed 7, a STRUCK one", x, 1, 7, 5, 55, 1, 2131988640);
        // PERSON 4, FEUD 1, SIDE 0; PERSON 0, who lives (2 of 4).
        dueYears("seed 22, an OPEN SIDE", x, 1, 22, 5, 50, 0, 1300679731);
    }

    private static void moneyInYears() {
        sentence("24: MONEY (99 at most) in YEARS");
        ClosedFeuds x = read("011");
        x.peace(0);
        seasons(x, 44);
        // All have 97; in year 1 of seed 0 nobody dies.
        due("99 each", x.years(1, 0, 1), 594);
        x.season();
        due("99 each still", x.years(1, 0, 1), 594);
        // In year 1 of seed 8 PERSON 1 dies; his 99 are lost.
        due("one of them dead", x.years(1, 8, 1), 495);
        x.heir(1, 2);
        due("no room with his HEIR", x.years(1, 8, 1), 495);
    }

    private static void yearsRefuses() {
        sentence("24: OUTSIDE: years (1 to 60), seed (0 at least), what; STATE: no LIST: in this order");
        ClosedFeuds x = read("011");
        ClosedFeuds none = new ClosedFeuds();
        for (int years : new int[] {-1, 0, 61, LOW, HIGH}) {
            refused("years " + years, x, () -> x.years(years, 0, 0), OUTSIDE);
            refused("years " + years + ", no LIST", none, () -> none.years(years, 0, 0), OUTSIDE);
        }
        for (int seed : new int[] {-1, -2, LOW}) {
            refused("seed " + seed, x, () -> x.years(1, seed, 0), OUTSIDE);
            refused("seed " + seed + ", no LIST", none, () -> none.years(1, seed, 0), OUTSIDE);
        }
        for (int what : new int[] {-1, 4, LOW, HIGH}) {
            refused("what " + what, x, () -> x.years(60, HIGH, what), OUTSIDE);
            refused("what " + what + ", no LIST", none, () -> none.years(60, HIGH, what), OUTSIDE);
        }
        refused("no LIST", none, () -> none.years(1, 0, 0), STATE);
        refused("no LIST, the last ones", none, () -> none.years(60, HIGH, 3), STATE);
    }

    private static void yearsChangeNothing() {
        sentence("24: YEARS, as they would be: nothing is changed");
        ClosedFeuds x = read("b011,g231,j451,p012");
        x.heir(0, 4);
        x.lend(1, 0, 5);
        x.image();
        x.register(2, 4);
        long before = x.digest();
        for (int what = 0; what <= 3; what++) {
            int first = x.years(60, 17, what);
            due("the same again, " + what, x.years(60, 17, what), first);
        }
        due("digest", x.digest(), before);
        due("restore", x.restore(), 4);
        due("the IMAGE has no REGISTERS", x.count(6), 0);
        due("alive", x.count(2), 6);
        due("LENT", x.about(1, 5), 2);
    }
}
