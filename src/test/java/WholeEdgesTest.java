import java.math.BigInteger;
import java.util.ArrayList;
import java.util.List;

/** Each sentence on what is told of all that names a boundary case: "Terms", promises 25 to 28. */
public final class WholeEdgesTest extends ByHand {
    private static final String EIGHT = "b011,b122,b233,b344,b455,b506,b027,b138";

    public static void main(String[] args) {
        imageOfEight();
        imageRefuses();
        keepsEach();
        keepsNot();
        theLatest();
        restoreRefuses();
        anotherListSince();
        countsAtTheirMost();
        listsRead();
        countRefuses();
        digestWithoutAList();
        digestOfMuch();
        digestOfSides();
        digestOfMarriages();
        fiveHundredAndTwelve();
        tally.end();
    }

    private static void imageOfEight() {
        sentence("25: how many FEUDS are not STRUCK; 26: how many FEUDS are not STRUCK");
        ClosedFeuds x = read(EIGHT);
        for (int struck = 0; struck <= 8; struck++) {
            due("image, struck " + struck, x.image(), 8 - struck);
            due("restore, struck " + struck, x.restore(), 8 - struck);
            if (struck < 8) {
                x.peace(struck);
            }
        }
    }

    private static void imageRefuses() {
        sentence("25: STATE: no LIST");
        ClosedFeuds x = new ClosedFeuds();
        refused("image", x, x::image, STATE);
        refused("no IMAGE is kept by that", x, x::restore, STATE);
        readAgain(x, "011");
        refused("nor by reading a LIST", x, x::restore, STATE);
    }

    private static void keepsEach() {
        sentence("An IMAGE keeps MONEY, HEIRS, who is alive, all SIDES, what is LENT, STRUCK, HARMS, REGISTERS");
        ClosedFeuds x = read("b011,g232,j453,p121");
        x.heir(0, 4);
        x.lend(1, 1, 5);
        x.buy(3, 0, 0);
        x.harm(3, 1);
        x.register(0, 5);
        x.death(4);
        x.peace(3);
        x.image();
        long kept = x.digest();
        List<Runnable> changes = List.of(x::season, () -> x.heir(0, NONE), () -> x.heir(1, 2), () -> x.death(3),
                () -> x.buy(0, 2, 0), () -> x.lend(0, 1, 5), () -> x.peace(0), () -> x.harm(1, 3), x::forget,
                () -> x.register(1, 2), () -> x.death(2));
        for (int at = 0; at < changes.size(); at++) {
            changes.get(at).run();
            due("change " + at + " changes", x.digest() == kept ? 1 : 0, 0);
            due("restore behind change " + at, x.restore(), 3);
            due("as it was ahead of change " + at, x.digest(), kept);
        }
        for (Runnable change : changes) {
            change.run();
        }
        due("restore behind all of them", x.restore(), 3);
        due("as it was", x.digest(), kept);
        due("who LENT", x.about(1, 6), 3);
        due("whose SIDE", x.about(0, 3), 3);
        due("MONEY", x.person(3, 0), 8);
        due("whom the REGISTERS tell", x.lapsed(1), 5);
        due("it is back, when the SEASON ends", x.season(), 1);
        due("to whose it is", x.about(1, 4), 3);
    }

    private static void keepsNot() {
        sentence("An IMAGE keeps not KINDS, WORTH; nor THE PAGE, nor how often a LIST was read");
        ClosedFeuds x = read("g019");
        write(x, "abc");
        x.image();
        x.blank();
        write(x, "12345");
        due("restore", x.restore(), 1);
        due("letters of THE PAGE", x.count(7), 5);
        due("KIND", x.about(0, 0), 3);
        due("WORTH", x.about(0, 1), 9);
        due("lists", x.count(8), 1);
    }

    private static void theLatest() {
        sentence("25: an IMAGE is kept (one; the latest)");
        ClosedFeuds x = read("011,231");
        x.image();
        x.peace(0);
        x.image();
        x.peace(1);
        due("the latest", x.restore(), 1);
        due("FEUD 0 is STRUCK", x.about(0, 2), 1);
        x.death(5);
        due("again", x.restore(), 1);
        due("all alive", x.count(2), 6);
    }

    private static void restoreRefuses() {
        sentence("26: STATE: none was kept");
        ClosedFeuds none = new ClosedFeuds();
        refused("no LIST", none, none::restore, STATE);
        ClosedFeuds x = read("011");
        x.death(0);
        refused("none was kept", x, x::restore, STATE);
        due("dead still", x.person(0, 2), 0);
    }

    private static void anotherListSince() {
        sentence("26: STATE: there is another LIST since");
        ClosedFeuds x = read("011");
        x.image();
        write(x, "01");
        refused("no LIST", x, x::list, STATE);
        due("the IMAGE stands", x.restore(), 1);
        readAgain(x, "b231");
        refused("another LIST", x, x::restore, STATE);
        readAgain(x, "011");
        refused("the first text again", x, x::restore, STATE);
        due("an IMAGE of this one", x.image(), 1);
        x.death(0);
        due("restored", x.restore(), 1);
        due("alive", x.person(0, 2), 1);
    }

    private static void countsAtTheirMost() {
        sentence("27: how many, at the least and at the most");
        ClosedFeuds x = read("b011,g011,p011,b011,g011,p011,b011,b011");
        dueCounts("first", x, 8, 0, 6, 0, 0, 0, 0, 0, 1);
        for (int feud = 0; feud < 8; feud++) {
            x.lend(feud, 0, 2);
            x.lend(feud, 1, 3);
            x.register(0, 5);
        }
        for (int many = 1; many <= 40; many++) {
            x.letter(65);
        }
        dueCounts("all LENT, a full page", x, 8, 0, 6, 0, 16, 0, 8, 40, 1);
        x.season();
        for (int many = 1; many <= 12; many++) {
            x.harm(0, 1);
        }
        for (int one = 0; one <= 5; one++) {
            x.death(one);
        }
        dueCounts("all dead", x, 8, 0, 0, 16, 0, 12, 8, 40, 1);
        ClosedFeuds struck = read(EIGHT);
        for (int feud = 0; feud < 8; feud++) {
            struck.peace(feud);
        }
        struck.death(0);
        dueCounts("all STRUCK: no SIDE is OPEN", struck, 8, 8, 5, 0, 0, 0, 0, 0, 1);
    }

    private static void dueCounts(String when, ClosedFeuds x, int... counts) {
        for (int what = 0; what <= 8; what++) {
            due(when + ", " + what, x.count(what), counts[what]);
        }
    }

    private static void listsRead() {
        sentence("27: how often a LIST was read");
        ClosedFeuds x = new ClosedFeuds();
        x.list();
        due("a refused one does not count", x.count(8), 0);
        for (int many = 1; many <= 20; many++) {
            readAgain(x, "011");
            due("read", x.count(8), many);
        }
        x.image();
        x.restore();
        due("restoring is no reading", x.count(8), 20);
    }

    private static void countRefuses() {
        sentence("27: OUTSIDE");
        for (ClosedFeuds x : new ClosedFeuds[] {new ClosedFeuds(), read("011")}) {
            for (int what : new int[] {-1, 9, 10, LOW, HIGH}) {
                refused("what " + what, x, () -> x.count(what), OUTSIDE);
            }
        }
    }

    /** 31 times h, and each number, in whole numbers without bound, cut to a long at the end. */
    private static long folded(List<Integer> numbers) {
        BigInteger h = BigInteger.valueOf(751);
        for (int number : numbers) {
            h = h.multiply(BigInteger.valueOf(31)).add(BigInteger.valueOf(number));
        }
        return h.longValue();
    }

    private static List<Integer> numbers(int... some) {
        List<Integer> all = new ArrayList<>();
        for (int number : some) {
            all.add(number);
        }
        return all;
    }

    private static List<Integer> sixAtFirst() {
        List<Integer> told = new ArrayList<>();
        for (int one = 0; one <= 5; one++) {
            told.addAll(List.of(9, NONE, 1, 0, 0, 0));
        }
        return told;
    }

    private static void digestWithoutAList() {
        sentence("28: without a LIST neither marry() nor lapsed(); letters of THE PAGE");
        List<Integer> told = sixAtFirst();
        for (int pair = 0; pair < 30; pair++) {
            told.add(NONE);
        }
        List<Integer> empty = new ArrayList<>(told);
        empty.addAll(numbers(0, 0, 6, 0, 0, 0, 0, 0, 0));
        ClosedFeuds x = new ClosedFeuds();
        due("new", x.digest(), folded(empty));
        x.letter(1);
        x.letter(126);
        x.register(0, 1);
        told.addAll(numbers(1, 126, 0, 0, 6, 0, 0, 0, 1, 2, 0));
        due("two letters, one of the REGISTERS", x.digest(), folded(told));
    }

    private static void digestOfMuch() {
        sentence("28: 31 times h, and it (as longs, wrapping), in order");
        ClosedFeuds x = read("g152,041");
        x.heir(2, 3);
        x.lend(0, 0, 0);
        x.harm(0, 5);
        x.register(2, 3);
        x.letter('b');
        List<Integer> told = numbers(3, 2, 0, 0, 5, 1, NONE, 4, 4, 0, 1, 0, 0, 4, NONE, NONE, 1, 1);
        told.addAll(numbers(9, NONE, 1, 2, 1, 0, 9, NONE, 1, 0, 0, 0, 9, 3, 1, 0, 0, 0));
        told.addAll(numbers(9, NONE, 1, 0, 0, 0, 9, NONE, 1, 1, 0, 0, 9, NONE, 1, 1, 0, 1));
        told.addAll(numbers(NONE, NONE, NONE, 1, 0));
        for (int pair = 0; pair < 15; pair++) {
            told.add(NONE);
        }
        told.addAll(numbers(1, NONE, NONE, NONE, NONE, 0, NONE, NONE, NONE, NONE));
        told.addAll(numbers(1, 1, 1, 15, 98, 2, 0, 6, 0, 1, 1, 1, 1, 1));
        due("digest", x.digest(), folded(told));
        due("digest again", x.digest(), folded(told));
    }

    private static void digestOfSides() {
        sentence("28: of a STRUCK one, of an OPEN SIDE, of a dead one");
        ClosedFeuds x = read("j019,p232");
        x.peace(0);
        x.heir(3, 0);
        x.death(2);
        List<Integer> told = numbers(2, 9, 1, NONE, NONE, NONE, NONE, NONE, NONE, 4, 2, 0, NONE, 3, NONE, NONE, 7, 4);
        told.addAll(numbers(9, NONE, 1, 0, 0, 0, 9, NONE, 1, 0, 0, 0, 0, NONE, 0, 0, 0, 0));
        told.addAll(numbers(9, 0, 1, 1, 0, 0, 9, NONE, 1, 0, 0, 0, 9, NONE, 1, 0, 0, 0));
        for (int pair = 0; pair < 30; pair++) {
            told.add(NONE);
        }
        told.addAll(numbers(0, 0, 15, NONE, 2, 1, 5, 1, 0, 0, 0, 0, 1));
        due("digest", x.digest(), folded(told));
    }

    private static void digestOfMarriages() {
        sentence("28: what marry() tells for 0 and 1, what lapsed() tells for 0 and 1");
        ClosedFeuds x = read("011,011");
        x.register(2, 5);
        List<Integer> told = numbers(0, 1, 0, 0, 1, NONE, NONE, 1, 1, 0, 1, 0, 0, 1, NONE, NONE, 1, 1);
        for (int one = 0; one <= 5; one++) {
            told.addAll(numbers(9, NONE, 1, one < 2 ? 2 : 0, 0, 0));
        }
        for (int pair = 0; pair < 30; pair++) {
            told.add(pair == 0 || pair == 5 ? 0 : NONE);
        }
        told.addAll(numbers(2, 1, 1, 17, 2, 0, 6, 0, 0, 0, 1, 0, 1));
        due("digest", x.digest(), folded(told));
    }

    private static void fiveHundredAndTwelve() {
        sentence("An object is used for at most 512 calls");
        ClosedFeuds x = new ClosedFeuds();
        for (int call = 0; call < 512; call += 4) {
            due("letter", x.letter('0'), 1);
            due("letter", x.letter('1'), 2);
            due("letter", x.letter('9'), 3);
            due("list", x.list(), 1);
        }
    }
}
