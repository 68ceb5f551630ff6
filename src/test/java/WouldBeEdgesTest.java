import java.math.BigInteger;

/** Each sentence on what would be that names a boundary case: "Terms", promises 17 to 20. */
public final class WouldBeEdgesTest extends ByHand {
    public static void main(String[] args) {
        nothingToBuy();
        theLeastMoney();
        sideZeroFirst();
        enoughMoney();
        cantComeBy();
        comeByRefuses();
        mostStruck();
        fewestPairs();
        marriesNobody();
        marryRefuses();
        bitsOfSides();
        setsThatDie();
        byNumber();
        willsRefuses();
        tenths();
        lowestTerms();
        eightFeudsLeft();
        leftRefuses();
        changesNothing();
        tally.end();
    }

    private static void dueComeBy(String what, ClosedFeuds x, int a, int b, int money, int feud) {
        due(what + ": how much", x.comeBy(a, b, 0), money);
        due(what + ": the FEUD", x.comeBy(a, b, 1), feud);
        due(what + ": how much, told the other way", x.comeBy(b, a, 0), money);
        due(what + ": the FEUD, told the other way", x.comeBy(b, a, 1), feud);
    }

    private static void nothingToBuy() {
        sentence("17: on what one is already he BUYS nothing");
        ClosedFeuds x = read("239,459,018,017,109");
        dueComeBy("on both SIDES, of like ones the least", x, 0, 1, 0, 2);
        x.peace(2);
        dueComeBy("that is not STRUCK", x, 0, 1, 0, 3);
        ClosedFeuds one = read("015");
        dueComeBy("on SIDE 0 already", one, 0, 4, 5, 0);
        dueComeBy("on SIDE 1 already", one, 1, 4, 5, 0);
        ClosedFeuds lent = read("b015");
        lent.lend(0, 0, 4);
        dueComeBy("on a LENT SIDE already", lent, 4, 1, 0, 0);
        dueComeBy("the other one BUYS", lent, 4, 5, 5, 0);
        dueComeBy("who LENT it is not on it", lent, 0, 1, NONE, NONE);
    }

    private static void theLeastMoney() {
        sentence("17: the least MONEY; that FEUD: of like ones the least");
        dueComeBy("all alike", read("014,234,014"), 4, 5, 8, 0);
        dueComeBy("the last one is less", read("014,234,013"), 4, 5, 6, 2);
        dueComeBy("a JOKE", read("011,g231,j019"), 4, 5, 2, 0);
        dueComeBy("a JOKE of most WORTH", read("012,g232,j019"), 4, 5, 2, 2);
        dueComeBy("one SIDE of a dear one is less than two", read("013,455"), 4, 3, 5, 1);
        dueComeBy("two SIDES of a cheap one are less", read("012,455"), 4, 3, 4, 0);
        dueComeBy("just alike", read("012,454"), 4, 3, 4, 0);
    }

    private static void sideZeroFirst() {
        sentence("17: SIDE 0 first, then SIDE 1, one BUYING behind the other, as it would be then");
        ClosedFeuds open1 = read("018");
        open1.death(1);
        dueComeBy("SIDE 1 is OPEN: 4 and 8", open1, 4, 5, 12, 0);
        ClosedFeuds open0 = read("018");
        open0.death(0);
        dueComeBy("SIDE 0 is OPEN: 8 and 8", open0, 4, 5, 16, 0);
        ClosedFeuds both = read("018");
        both.death(0);
        both.death(1);
        dueComeBy("both are OPEN: 4 and 8", both, 4, 5, 12, 0);
        // 4 pays 8 of his 9, 0 has 17 then and pays 16: the other way round 4 can't pay 16.
        ClosedFeuds got = read("g018");
        got.death(1);
        dueComeBy("what one gets he has for SIDE 1", got, 0, 4, 24, 0);
        // 4 pays 9 of his 9; 0 has 18 then, just what he pays.
        ClosedFeuds just = read("g019");
        just.death(1);
        dueComeBy("9 and 18", just, 0, 4, 27, 0);
        ClosedFeuds dear = read("p018");
        dear.death(1);
        dueComeBy("10 of 9 can't be", dear, 0, 4, NONE, NONE);
    }

    private static void enoughMoney() {
        sentence("17: BUYING: has the PRICE as MONEY");
        dueComeBy("9 of 9 each", read("019"), 4, 5, 18, 0);
        dueComeBy("9 of 10", read("g015"), 4, 5, NONE, NONE);
        ClosedFeuds poor = read("019,239");
        poor.buy(4, 0, 0);
        dueComeBy("who has 0 is on a SIDE", poor, 4, 5, 9, 0);
        poor.peace(0);
        dueComeBy("who has 0 is on none", poor, 4, 5, NONE, NONE);
    }

    private static void cantComeBy() {
        sentence("17: NONE: they can't");
        ClosedFeuds x = read("b011,j231");
        x.lend(0, 0, 4);
        x.peace(1);
        dueComeBy("SIDE 0 is LENT to another one", x, 2, 3, NONE, NONE);
        dueComeBy("all others are STRUCK", x, 2, 5, NONE, NONE);
        x.season();
        dueComeBy("not LENT any more", x, 2, 3, 2, 0);
        x.peace(0);
        dueComeBy("all are STRUCK", x, 0, 1, NONE, NONE);
    }

    private static void comeByRefuses() {
        sentence("17: UNKNOWN: a, b, or they are the same; OUTSIDE; STATE: no LIST, or one of them is dead: in this order");
        ClosedFeuds x = read("011");
        ClosedFeuds none = new ClosedFeuds();
        x.death(3);
        for (int one : NO_PERSON) {
            refused("a " + one, x, () -> x.comeBy(one, 0, 0), UNKNOWN);
            refused("b " + one, x, () -> x.comeBy(0, one, 0), UNKNOWN);
            refused("a " + one + " and what", x, () -> x.comeBy(one, 0, 2), UNKNOWN);
            refused("b " + one + " and a dead one", x, () -> x.comeBy(3, one, 0), UNKNOWN);
            refused("a " + one + ", no LIST", none, () -> none.comeBy(one, 0, 0), UNKNOWN);
        }
        refused("the same", x, () -> x.comeBy(0, 0, 0), UNKNOWN);
        refused("the same and what", x, () -> x.comeBy(0, 0, 2), UNKNOWN);
        refused("the same, dead", x, () -> x.comeBy(3, 3, 0), UNKNOWN);
        refused("the same, no LIST", none, () -> none.comeBy(0, 0, 0), UNKNOWN);
        for (int what : new int[] {-1, 2, LOW, HIGH}) {
            refused("what " + what, x, () -> x.comeBy(0, 1, what), OUTSIDE);
            refused("what " + what + " and a dead one", x, () -> x.comeBy(0, 3, what), OUTSIDE);
            refused("what " + what + ", no LIST", none, () -> none.comeBy(0, 1, what), OUTSIDE);
        }
        for (int what = 0; what <= 1; what++) {
            int which = what;
            refused("a is dead", x, () -> x.comeBy(3, 0, which), STATE);
            refused("b is dead", x, () -> x.comeBy(0, 3, which), STATE);
            refused("no LIST", none, () -> none.comeBy(0, 1, which), STATE);
        }
    }

    private static void dueMarry(String what, ClosedFeuds x, int struck, int pairs) {
        due(what + ": STRUCK", x.marry(0), struck);
        due(what + ": pairs", x.marry(1), pairs);
    }

    private static void mostStruck() {
        sentence("18: the most FEUDS that would be STRUCK (nobody in two pairs)");
        dueMarry("eight by one pair", read("011,102,b013,j104,g015,p106,017,108"), 8, 1);
        dueMarry("three pairs", read("011,231,451"), 3, 3);
        dueMarry("three who are in one another's way", read("011,121,201"), 1, 1);
        dueMarry("one who is in all", read("011,021,031,041,051"), 1, 1);
        dueMarry("two and two are more than three", read("011,011,121,121,121,231,231"), 4, 2);
        dueMarry("the least numbers alone would be fewer", read("011,021,021,131,131"), 4, 2);
        dueMarry("WORTH counts nothing", read("019,121,121"), 2, 1);
    }

    private static void fewestPairs() {
        sentence("18: how few pairs that takes");
        dueMarry("two by one, or by two", read("121,121,011,231"), 2, 1);
        dueMarry("four by two, but five by three", read("011,011,231,231,021,131,451"), 5, 3);
        dueMarry("three by one, or by three", read("011,011,011,021,131"), 3, 1);
        dueMarry("four by two, or by three", read("121,121,341,341,011,231,451"), 4, 2);
    }

    private static void marriesNobody() {
        sentence("18: alive PEOPLE, on both SIDES");
        ClosedFeuds x = read("b011,b012");
        x.lend(0, 0, 3);
        dueMarry("to whom it is LENT, or the other FEUD's", x, 1, 1);
        x.season();
        x.peace(0);
        dueMarry("one is STRUCK", x, 1, 1);
        x.death(1);
        dueMarry("a SIDE is OPEN", x, 0, 0);
        ClosedFeuds struck = read("011");
        struck.peace(0);
        dueMarry("all STRUCK", struck, 0, 0);
        ClosedFeuds dead = read("011");
        for (int one = 0; one <= 5; one++) {
            dead.death(one);
        }
        dueMarry("all dead", dead, 0, 0);
        ClosedFeuds heir = read("011,021");
        heir.heir(0, 5);
        heir.death(0);
        dueMarry("the HEIR's", heir, 1, 1);
    }

    private static void marryRefuses() {
        sentence("18: OUTSIDE; STATE: no LIST");
        ClosedFeuds x = read("011");
        ClosedFeuds none = new ClosedFeuds();
        for (int what : new int[] {-1, 2, LOW, HIGH}) {
            refused("what " + what, x, () -> x.marry(what), OUTSIDE);
            refused("what " + what + ", no LIST", none, () -> none.marry(what), OUTSIDE);
        }
        refused("no LIST, 0", none, () -> none.marry(0), STATE);
        refused("no LIST, 1", none, () -> none.marry(1), STATE);
    }

    private static void bitsOfSides() {
        sentence("19: SIDE 0 of FEUD k bit 2 k, SIDE 1 the next one");
        for (int feud = 0; feud < 8; feud++) {
            StringBuilder text = new StringBuilder();
            for (int other = 0; other < 8; other++) {
                text.append(other == 0 ? "" : ",").append(other == feud ? "451" : "011");
            }
            ClosedFeuds x = read(text.toString());
            due("SIDE 0 of " + feud, x.wills(0, 4), 1 << 2 * feud);
            due("SIDE 1 of " + feud, x.wills(0, 5), 2 << 2 * feud);
        }
        due("all SIDES 0", read("011,011,011,011,011,011,011,011").wills(0, 0), 0x5555);
        due("all SIDES 1", read("011,011,011,011,011,011,011,011").wills(0, 1), 0xaaaa);
        due("no SIDE", read("011").wills(0, 5), 0);
    }

    private static void setsThatDie() {
        sentence("19: if all of a set of PEOPLE who are alive died; set (0 to 63)");
        ClosedFeuds x = read("b011,b231");
        x.heir(0, 4);
        x.heir(4, 5);
        due("nobody", x.wills(0, 0), 1);
        due("0 alone", x.wills(1, 4), 1);
        due("0 has none then", x.wills(1, 0), 0);
        due("0 and 4", x.wills(17, 5), 1);
        due("5 alone", x.wills(32, 5), 0);
        for (int one = 0; one <= 5; one++) {
            due("all, " + one, x.wills(63, one), 0);
        }
        due("all but 5", x.wills(31, 5), 1);
        x.lend(1, 0, 0);
        due("on a LENT SIDE", x.wills(0, 0), 5);
        due("it goes back", x.wills(1, 2), 4);
        x.season();
        x.heir(3, 1);
        x.death(0);
        due("one of the set is dead: he dies no second time", x.wills(1, 4), 1);
        x.peace(1);
        due("a STRUCK one goes to nobody", x.wills(8, 1), 2);
    }

    private static void byNumber() {
        sentence("19: died, by number");
        ClosedFeuds x = read("021");
        x.heir(0, 1);
        x.heir(2, 1);
        due("0's goes to 1, then 2's is OPEN", x.wills(5, 1), 1);
        ClosedFeuds y = read("201");
        y.heir(0, 1);
        y.heir(2, 1);
        due("0's, on SIDE 1, goes to 1, then 2's is OPEN", y.wills(5, 1), 2);
        ClosedFeuds z = read("451");
        z.heir(4, 5);
        z.heir(5, 0);
        due("4's is OPEN, as 5 is alive then; 5's goes to 0", z.wills(48, 0), 2);
    }

    private static void willsRefuses() {
        sentence("19: UNKNOWN: person; OUTSIDE: set (0 to 63); STATE: no LIST: in this order");
        ClosedFeuds x = read("011");
        ClosedFeuds none = new ClosedFeuds();
        for (int one : NO_PERSON) {
            refused("person " + one, x, () -> x.wills(0, one), UNKNOWN);
            refused("person " + one + " and set", x, () -> x.wills(64, one), UNKNOWN);
            refused("person " + one + ", no LIST", none, () -> none.wills(0, one), UNKNOWN);
        }
        for (int set : new int[] {-1, 64, 65, LOW, HIGH}) {
            refused("set " + set, x, () -> x.wills(set, 0), OUTSIDE);
            refused("set " + set + ", no LIST", none, () -> none.wills(set, 0), OUTSIDE);
        }
        refused("no LIST", none, () -> none.wills(0, 0), STATE);
        refused("no LIST, all", none, () -> none.wills(63, 5), STATE);
    }

    private static void dueLeft(String what, ClosedFeuds x, int years, int many, long above, long below) {
        due(what + ", " + years + " years, " + many + ": above", x.left(years, many, 0), above);
        due(what + ", " + years + " years, " + many + ": below", x.left(years, many, 1), below);
    }

    private static void tenths() {
        sentence("20: each that is not STRUCK yet is by as many tenths as 10 less its WORTH; YEARS (1, 2)");
        for (int worth = 1; worth <= 9; worth++) {
            ClosedFeuds x = read("g01" + worth);
            dueShare(x, 1, 1, worth, 10);
            dueShare(x, 1, 0, 10 - worth, 10);
            dueShare(x, 2, 1, worth * worth, 100);
            dueShare(x, 2, 0, 100 - worth * worth, 100);
        }
    }

    private static void dueShare(ClosedFeuds x, int years, int many, long above, long below) {
        long common = BigInteger.valueOf(above).gcd(BigInteger.valueOf(below)).longValueExact();
        dueLeft("one FEUD", x, years, many, above / common, below / common);
    }

    private static void lowestTerms() {
        sentence("20: in lowest terms: part 0 above, 1 below; many (0 to 8)");
        ClosedFeuds x = read("015,235");
        dueLeft("two halves", x, 1, 0, 1, 4);
        dueLeft("two halves", x, 1, 1, 1, 2);
        dueLeft("two halves", x, 1, 2, 1, 4);
        for (int many = 3; many <= 8; many++) {
            dueLeft("more than there are", x, 1, many, 0, 1);
            dueLeft("more than there are", x, 2, many, 0, 1);
        }
        x.peace(0);
        dueLeft("one is STRUCK", x, 1, 1, 1, 2);
        dueLeft("one is STRUCK", x, 1, 2, 0, 1);
        x.peace(1);
        dueLeft("none is left", x, 1, 0, 1, 1);
        dueLeft("none is left", x, 2, 0, 1, 1);
        dueLeft("none is left", x, 2, 1, 0, 1);
    }

    private static void eightFeudsLeft() {
        sentence("20: eight FEUDS, two YEARS, all of many (0 to 8)");
        for (int worth = 1; worth <= 9; worth++) {
            ClosedFeuds x = read("01W,12W,23W,34W,45W,50W,02W,13W".replace('W', (char) ('0' + worth)));
            for (int many = 0; many <= 8; many++) {
                for (int years = 1; years <= 2; years++) {
                    BigInteger all = BigInteger.TEN.pow(years);
                    BigInteger stays = BigInteger.valueOf(worth).pow(years);
                    BigInteger ways = choose(8, many).multiply(stays.pow(many)).multiply(all.subtract(stays).pow(8 - many));
                    BigInteger common = ways.gcd(all.pow(8));
                    dueLeft("eight of " + worth, x, years, many, ways.divide(common).longValueExact(),
                            all.pow(8).divide(common).longValueExact());
                }
            }
        }
    }

    private static BigInteger choose(int all, int some) {
        BigInteger ways = BigInteger.ONE;
        for (int i = 1; i <= some; i++) {
            ways = ways.multiply(BigInteger.valueOf(all - some + i)).divide(BigInteger.valueOf(i));
        }
        return ways;
    }

    private static void leftRefuses() {
        sentence("20: OUTSIDE: years (1, 2), many (0 to 8), part; STATE: no LIST: in this order");
        ClosedFeuds x = read("011");
        ClosedFeuds none = new ClosedFeuds();
        for (int years : new int[] {-1, 0, 3, LOW, HIGH}) {
            refused("years " + years, x, () -> x.left(years, 0, 0), OUTSIDE);
            refused("years " + years + ", no LIST", none, () -> none.left(years, 0, 0), OUTSIDE);
        }
        for (int many : new int[] {-1, 9, LOW, HIGH}) {
            refused("many " + many, x, () -> x.left(1, many, 0), OUTSIDE);
            refused("many " + many + ", no LIST", none, () -> none.left(1, many, 0), OUTSIDE);
        }
        for (int part : new int[] {-1, 2, LOW, HIGH}) {
            refused("part " + part, x, () -> x.left(2, 8, part), OUTSIDE);
            refused("part " + part + ", no LIST", none, () -> none.left(2, 8, part), OUTSIDE);
        }
        refused("no LIST", none, () -> none.left(1, 0, 0), STATE);
        refused("no LIST, the last ones", none, () -> none.left(2, 8, 1), STATE);
    }

    private static void changesNothing() {
        sentence("what would be: nothing is changed");
        ClosedFeuds x = read("b012,g232,j451,p019");
        x.heir(0, 2);
        x.lend(0, 0, 4);
        x.image();
        x.register(0, 5);
        long before = x.digest();
        for (int one = 1; one <= 5; one++) {
            x.comeBy(0, one, 0);
            x.wills(63, one);
            x.left(2, one, 0);
        }
        x.marry(1);
        due("digest", x.digest(), before);
        x.restore();
        due("the IMAGE", x.count(6), 0);
        due("lent", x.about(0, 5), 0);
    }
}
