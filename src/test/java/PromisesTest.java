/** For each promise of the document answers that were reckoned by hand from its words. */
public final class PromisesTest extends ByHand {
    public static void main(String[] args) {
        aNewObject();
        letter();
        blank();
        fault();
        list();
        about();
        as();
        person();
        heir();
        buy();
        lend();
        peace();
        death();
        deathMoney();
        mayHarm();
        harm();
        season();
        comeBy();
        marry();
        wills();
        left();
        register();
        forget();
        lapsed();
        years();
        imageAndRestore();
        count();
        digest();
        tally.end();
    }

    // Promise 1
    private static void aNewObject() {
        ClosedFeuds x = new ClosedFeuds();
        for (int what = 0; what <= 8; what++) {
            due("new count " + what, x.count(what), what == 2 ? 6 : 0);
        }
        int[] first = {9, NONE, 1, 0, 0, 0};
        for (int one = 0; one < 6; one++) {
            for (int what = 0; what < 6; what++) {
                due("new person " + one + " " + what, x.person(one, what), first[what]);
            }
        }
        refused("new about", x, () -> x.about(0, 0), UNKNOWN);
        refused("new as", x, () -> x.as(0, 0), UNKNOWN);
        refused("new heir", x, () -> x.heir(0, 1), STATE);
        refused("new buy", x, () -> x.buy(0, 0, 0), UNKNOWN);
        refused("new lend", x, () -> x.lend(0, 0, 0), UNKNOWN);
        refused("new peace", x, () -> x.peace(0), UNKNOWN);
        refused("new death", x, () -> x.death(0), STATE);
        due("new mayHarm", x.mayHarm(0, 1), NONE);
        refused("new harm", x, () -> x.harm(0, 1), STATE);
        refused("new season", x, x::season, STATE);
        refused("new comeBy", x, () -> x.comeBy(0, 1, 0), STATE);
        refused("new marry", x, () -> x.marry(0), STATE);
        refused("new wills", x, () -> x.wills(0, 0), STATE);
        refused("new left", x, () -> x.left(1, 0, 0), STATE);
        refused("new lapsed", x, () -> x.lapsed(0), STATE);
        refused("new years", x, () -> x.years(1, 0, 0), STATE);
        refused("new image", x, x::image, STATE);
        refused("new restore", x, x::restore, STATE);
        refused("new list", x, x::list, STATE);
        due("new register", x.register(0, 1), 1);
        due("new forget", x.forget(), 1);
        due("new blank", x.blank(), 0);
        due("new fault", x.fault(), 0);
    }

    // Promise 2
    private static void letter() {
        ClosedFeuds x = new ClosedFeuds();
        for (int code : new int[] {0, -1, 127, LOW, HIGH}) {
            refused("letter " + code, x, () -> x.letter(code), OUTSIDE);
        }
        due("letter 1", x.letter(1), 1);
        due("letter 126", x.letter(126), 2);
        for (int many = 3; many <= 40; many++) {
            due("letter no. " + many, x.letter(50), many);
        }
        refused("letter 41", x, () -> x.letter(50), FULL);
        refused("letter of no code on a full page", x, () -> x.letter(0), OUTSIDE);
        due("letters", x.count(7), 40);
    }

    // Promise 3
    private static void blank() {
        ClosedFeuds x = read("013");
        due("blank of an empty page", x.blank(), 0);
        write(x, "012,");
        due("blank", x.blank(), 4);
        due("page behind blank", x.count(7), 0);
        due("fault behind blank", x.fault(), 0);
        due("letter behind blank", x.letter(48), 1);
        due("blank leaves the list", x.count(0), 1);
    }

    private static void dueFault(String text, int place) {
        ClosedFeuds x = new ClosedFeuds();
        write(x, text);
        long before = x.digest();
        due("fault of '" + text + "'", x.fault(), place);
        due("fault of '" + text + "' changes nothing", x.digest(), before);
    }

    // Promise 4
    private static void fault() {
        String eight = "011,012,013,014,015,016,017,018";
        String eightKinds = "b011,j012,g013,p014,b015,j016,g017,p018";
        String[] whole = {"", "0", "01", "011", "011,", "011,b", "b", "b5", "b54", "p549", "j231,g451", eight, eightKinds};
        for (String text : whole) {
            dueFault(text, text.length());
        }
        dueFault("x", 0);
        dueFault("B011", 0);
        dueFault(",011", 0);
        dueFault("6", 0);
        dueFault("/", 0);
        dueFault(" 011", 0);
        dueFault("00", 1);
        dueFault("06", 1);
        dueFault("0/", 1);
        dueFault("0b", 1);
        dueFault("bb", 1);
        dueFault("b,", 1);
        dueFault("b6", 1);
        dueFault("b55", 2);
        dueFault("010", 2);
        dueFault("01:", 2);
        dueFault("01b", 2);
        dueFault("01,", 2);
        dueFault("0190", 3);
        dueFault("011b", 3);
        dueFault("011,,", 4);
        dueFault("011,011,7", 8);
        dueFault("x,,", 0);
        dueFault(eight + ",", 31);
        dueFault(eight + ",011", 31);
        dueFault(eightKinds + ",", 39);
        dueFault(eightKinds + "1", 39);
    }

    // Promise 5
    private static void list() {
        for (String text : new String[] {"", "0", "01", "b", "011,", "011,b", "011,01", "001", "010", "011,001", "0111",
                "011,012,013,014,015,016,017,018,"}) {
            ClosedFeuds x = new ClosedFeuds();
            write(x, text);
            refused("list of '" + text + "'", x, x::list, STATE);
            due("letters behind a refused list", x.count(7), text.length());
        }
        ClosedFeuds x = read("b011,j122,g233,p344,455,506,b017,p128");
        due("page behind list", x.count(7), 0);
        int[] kinds = {1, 2, 3, 4, 0, 0, 1, 4};
        int[] sides = {0, 1, 1, 2, 2, 3, 3, 4, 4, 5, 5, 0, 0, 1, 1, 2};
        for (int feud = 0; feud < 8; feud++) {
            due("kind " + feud, x.about(feud, 0), kinds[feud]);
            due("worth " + feud, x.about(feud, 1), feud + 1);
            due("struck " + feud, x.about(feud, 2), 0);
            due("side 0 of " + feud, x.about(feud, 3), sides[2 * feud]);
            due("side 1 of " + feud, x.about(feud, 4), sides[2 * feud + 1]);
        }
        x.heir(0, 1);
        x.heir(1, 3);
        x.harm(0, 1);
        x.register(2, 3);
        x.lend(0, 0, 5);
        x.peace(4);
        x.buy(3, 1, 0);
        x.death(2);
        write(x, "354");
        due("another list", x.list(), 1);
        int[] counts = {1, 0, 6, 0, 0, 0, 0, 0, 2};
        for (int what = 0; what <= 8; what++) {
            due("count behind another list " + what, x.count(what), counts[what]);
        }
        for (int one = 0; one < 6; one++) {
            due("money behind another list", x.person(one, 0), 9);
            due("heir behind another list", x.person(one, 1), NONE);
            due("alive behind another list", x.person(one, 2), 1);
            due("sides behind another list", x.person(one, 3), one == 3 || one == 5 ? 1 : 0);
        }
        refused("a feud of the list that is gone", x, () -> x.about(1, 0), UNKNOWN);
        write(x, "354,");
        refused("list that is none", x, x::list, STATE);
    }

    // Promise 6
    private static void about() {
        ClosedFeuds x = read("015,b234,j459,g013,p234");
        int[] prices = {5, 4, 1, 6, 11};
        for (int feud = 0; feud < 5; feud++) {
            due("price of side 0 of " + feud, x.about(feud, 7), prices[feud]);
            due("price of side 1 of " + feud, x.about(feud, 8), prices[feud]);
            due("lender 0 of " + feud, x.about(feud, 5), NONE);
            due("lender 1 of " + feud, x.about(feud, 6), NONE);
        }
        x.lend(1, 1, 0);
        due("on the lent side", x.about(1, 4), 0);
        due("who lent it", x.about(1, 6), 3);
        due("on the side that is not lent", x.about(1, 3), 2);
        due("who lent that", x.about(1, 5), NONE);
        x.death(0);
        due("on an open side", x.about(0, 3), NONE);
        due("price of an open side, the other not open", x.about(0, 7), 5);
        due("half a price, rounded up", x.about(0, 8), 3);
        due("half a grudge's price", x.about(3, 8), 3);
        x.death(2);
        due("half a pig's price, rounded up", x.about(4, 8), 6);
        due("half a boundary's price", x.about(1, 8), 2);
        x.death(4);
        due("half a joke's price, rounded up", x.about(2, 8), 1);
        x.death(1);
        due("half, both open 0", x.about(0, 7), 3);
        due("half, both open 1", x.about(0, 8), 3);
        x.peace(2);
        due("struck", x.about(2, 2), 1);
        for (int what = 3; what <= 8; what++) {
            due("of a struck feud " + what, x.about(2, what), NONE);
        }
        due("kind of a struck feud", x.about(2, 0), 2);
        due("worth of a struck feud", x.about(2, 1), 9);
        for (int feud : new int[] {-1, 5, 8, LOW, HIGH}) {
            refused("about feud " + feud, x, () -> x.about(feud, 9), UNKNOWN);
        }
        for (int what : new int[] {-1, 9, LOW, HIGH}) {
            refused("about what " + what, x, () -> x.about(0, what), OUTSIDE);
        }
    }

    // Promise 7
    private static void as() {
        ClosedFeuds x = read("015,b234,j451,g013,p234");
        boolean[][] such = {
            {true, false, false, false, false},
            {true, true, false, false, false},
            {true, false, true, false, false},
            {true, false, false, true, false},
            {true, false, false, true, true},
        };
        for (int feud = 0; feud < 5; feud++) {
            for (int kind = 0; kind < 5; kind++) {
                due("as " + feud + " " + kind, x.as(feud, kind), such[feud][kind] ? feud : NONE);
            }
        }
        for (int feud : new int[] {-1, 5, LOW, HIGH}) {
            refused("as of feud " + feud, x, () -> x.as(feud, 5), UNKNOWN);
        }
        for (int kind : new int[] {-1, 5, LOW, HIGH}) {
            refused("as of kind " + kind, x, () -> x.as(1, kind), OUTSIDE);
        }
        x.peace(4);
        due("a struck pig is a grudge", x.as(4, 3), 4);
    }

    // Promise 8
    private static void person() {
        ClosedFeuds x = read("015,b024,j301");
        due("sides of 0", x.person(0, 3), 3);
        due("sides of 4", x.person(4, 3), 0);
        x.lend(1, 0, 4);
        due("sides of who lent", x.person(0, 3), 2);
        due("sides of to whom it is lent", x.person(4, 3), 1);
        x.harm(0, 1);
        x.harm(0, 3);
        x.harm(0, 3);
        x.harm(3, 0);
        due("harmed by 0", x.person(0, 4), 3);
        due("by how many 0 was", x.person(0, 5), 1);
        due("harmed by 3", x.person(3, 4), 1);
        due("by how many 3 was", x.person(3, 5), 2);
        due("by how many 1 was", x.person(1, 5), 1);
        x.peace(2);
        due("sides behind a peace", x.person(0, 3), 1);
        x.heir(0, 5);
        due("heir", x.person(0, 1), 5);
        x.buy(5, 0, 1);
        due("money of the buyer", x.person(5, 0), 4);
        due("money of the seller", x.person(1, 0), 14);
        x.death(0);
        due("dead", x.person(0, 2), 0);
        due("heir of a dead one", x.person(0, 1), 5);
        due("harms of a dead one", x.person(0, 4), 3);
        due("sides of a dead one", x.person(0, 3), 0);
        for (int one : new int[] {-1, 6, LOW, HIGH}) {
            refused("person " + one, x, () -> x.person(one, 6), UNKNOWN);
        }
        for (int what : new int[] {-1, 6, LOW, HIGH}) {
            refused("person what " + what, x, () -> x.person(0, what), OUTSIDE);
        }
    }

    // Promise 9
    private static void heir() {
        ClosedFeuds x = read("015");
        due("first heir", x.heir(0, 1), NONE);
        due("second heir", x.heir(0, 5), 1);
        due("no heir any more", x.heir(0, NONE), 5);
        due("heir told", x.person(0, 1), NONE);
        due("heir again", x.heir(0, 4), NONE);
        for (int one : new int[] {-1, 6, LOW, HIGH}) {
            refused("heir of " + one, x, () -> x.heir(one, 1), UNKNOWN);
        }
        for (int one : new int[] {-2, 6, LOW, HIGH}) {
            refused("heir " + one, x, () -> x.heir(0, one), UNKNOWN);
        }
        refused("heir of himself", x, () -> x.heir(3, 3), UNKNOWN);
        x.death(4);
        refused("heir of a dead one", x, () -> x.heir(4, 1), STATE);
        refused("himself, and dead", x, () -> x.heir(4, 4), UNKNOWN);
        due("a dead heir", x.heir(1, 4), NONE);
        due("a dead heir told", x.person(1, 1), 4);
        ClosedFeuds none = new ClosedFeuds();
        refused("heir without a list", none, () -> none.heir(0, 1), STATE);
        refused("unknown heir without a list", none, () -> none.heir(0, 6), UNKNOWN);
    }

    // Promise 10
    private static void buy() {
        ClosedFeuds x = read("015,b234,j459,g014,p239");
        due("buy", x.buy(2, 0, 1), 5);
        due("whose it is", x.about(0, 4), 2);
        due("paid", x.person(2, 0), 4);
        due("got", x.person(1, 0), 14);
        refused("buy what is his", x, () -> x.buy(2, 0, 1), STATE);
        refused("buy the other side of his", x, () -> x.buy(2, 0, 0), STATE);
        refused("too dear", x, () -> x.buy(2, 3, 0), STATE);
        due("just enough", x.buy(2, 2, 0), 1);
        refused("buy a pig", x, () -> x.buy(0, 4, 0), STATE);
        x.lend(1, 0, 5);
        refused("buy a lent side", x, () -> x.buy(0, 1, 0), STATE);
        refused("buy by whom it is lent to", x, () -> x.buy(5, 1, 1), STATE);
        refused("buy by who lent it", x, () -> x.buy(2, 1, 1), STATE);
        due("buy the other side of a lent one", x.buy(0, 1, 1), 4);
        due("whose that is", x.about(1, 4), 0);
        due("who got it for that", x.person(3, 0), 13);
        due("the lent side is as it was", x.about(1, 5), 2);
        x.peace(2);
        refused("buy a struck one", x, () -> x.buy(1, 2, 0), STATE);
        x.death(3);
        refused("buy by a dead one", x, () -> x.buy(3, 0, 0), STATE);
        due("what was 3's is open", x.about(4, 4), NONE);
        int before = x.person(2, 0);
        seasons(x, 5);
        due("price of an open side", x.about(4, 8), 21);
        due("19 of 21", x.person(5, 0), 19);
        refused("an open side too dear", x, () -> x.buy(5, 4, 1), STATE);
        x.season();
        due("buy an open side", x.buy(5, 4, 1), 21);
        due("paid for an open side", x.person(5, 0), 0);
        due("nobody got it", x.person(2, 0), before + 12);
        for (int one : new int[] {-1, 6, LOW, HIGH}) {
            refused("buy by " + one, x, () -> x.buy(one, 0, 2), UNKNOWN);
            refused("buy of feud " + (one + 5), x, () -> x.buy(0, one < 0 ? one : one - 1, 2), UNKNOWN);
        }
        for (int side : new int[] {-1, 2, LOW, HIGH}) {
            refused("buy of side " + side, x, () -> x.buy(3, 0, side), OUTSIDE);
        }
        ClosedFeuds full = read("015");
        seasons(full, 44);
        due("97 at 44 seasons", full.person(0, 0), 97);
        due("buy of a rich one", full.buy(2, 0, 0), 5);
        due("no more than 99", full.person(0, 0), 99);
    }

    // Promise 11
    private static void lend() {
        ClosedFeuds x = read("015,b234,j459,g014,p239");
        refused("lend a feud of no kind", x, () -> x.lend(0, 0, 4), STATE);
        refused("lend a joke", x, () -> x.lend(2, 0, 0), STATE);
        due("lend a boundary", x.lend(1, 0, 4), 2);
        due("lend the other side", x.lend(1, 1, 5), 3);
        due("lend a grudge", x.lend(3, 1, 2), 1);
        due("lend a pig", x.lend(4, 1, 2 - 1), 3);
        due("on it", x.about(3, 4), 2);
        due("lent by", x.about(3, 6), 1);
        due("lent sides", x.count(4), 4);
        refused("lend what is lent", x, () -> x.lend(1, 0, 0), STATE);
        refused("lend to who lent the other side", x, () -> x.lend(3, 0, 1), STATE);
        refused("lend to whom the other side is lent", x, () -> x.lend(3, 0, 2), STATE);
        refused("lend to himself", x, () -> x.lend(3, 0, 0), STATE);
        refused("lend to the other side's", x, () -> x.lend(4, 0, 3), STATE);
        x.season();
        x.death(1);
        refused("lend to a dead one", x, () -> x.lend(1, 0, 1), STATE);
        refused("lend an open side", x, () -> x.lend(3, 1, 2), STATE);
        due("lend opposite an open side", x.lend(3, 0, 2), 0);
        x.peace(4);
        refused("lend a struck one", x, () -> x.lend(4, 0, 5), STATE);
        for (int one : new int[] {-1, 6, LOW, HIGH}) {
            refused("lend to " + one, x, () -> x.lend(1, 2, one), UNKNOWN);
        }
        for (int feud : new int[] {-1, 5, LOW, HIGH}) {
            refused("lend of feud " + feud, x, () -> x.lend(feud, 2, 0), UNKNOWN);
        }
        for (int side : new int[] {-1, 2, LOW, HIGH}) {
            refused("lend of side " + side, x, () -> x.lend(0, side, 1), OUTSIDE);
        }
    }

    // Promise 12
    private static void peace() {
        ClosedFeuds x = read("015,b234,j459,g014,p239,j125,123");
        x.lend(1, 1, 5);
        refused("peace of a lent one", x, () -> x.peace(1), STATE);
        x.season();
        x.lend(1, 0, 5);
        refused("peace of one lent on side 0", x, () -> x.peace(1), STATE);
        x.season();
        due("peace", x.peace(1), 1);
        refused("peace again", x, () -> x.peace(1), STATE);
        due("peace of a pig", x.peace(4), 2);
        x.death(1);
        refused("peace with side 1 open", x, () -> x.peace(0), STATE);
        refused("peace with side 0 open", x, () -> x.peace(6), STATE);
        due("peace of a joke, side 0 open", x.peace(5), 3);
        x.death(4);
        x.death(5);
        refused("peace of a joke, both open", x, () -> x.peace(2), STATE);
        ClosedFeuds joke = read("j125");
        joke.death(2);
        due("peace of a joke, side 1 open", joke.peace(0), 1);
        for (int feud : new int[] {-1, 7, LOW, HIGH}) {
            refused("peace of feud " + feud, x, () -> x.peace(feud), UNKNOWN);
        }
        due("struck", x.count(1), 3);
        due("a struck one is not open", x.count(3), 5);
    }

    // Promise 13
    private static void death() {
        ClosedFeuds x = read("015,b024,g301,b341,p235");
        x.heir(0, 3);
        x.lend(1, 0, 4);
        x.lend(3, 0, 0);
        due("death", x.death(0), 2);
        due("to the heir", x.about(0, 3), 3);
        due("what he lent goes to the heir", x.about(1, 3), 3);
        due("nobody has it lent", x.about(1, 5), NONE);
        due("what the heir has to do with is open", x.about(2, 4), NONE);
        due("what was lent to him goes back", x.about(3, 3), 3);
        due("lent sides", x.count(4), 0);
        due("alive", x.count(2), 5);
        refused("death again", x, () -> x.death(0), STATE);
        x.heir(1, 0);
        due("heir of a dead heir: has to do", x.death(1), 0);
        due("so it is open", x.about(0, 4), NONE);
        x.heir(2, 1);
        due("heir of a dead heir of a dead heir", x.death(2), 0);
        due("as 3 has both other sides", x.count(3), 4);
        due("no heir", x.death(3), 0);
        for (int one : new int[] {-1, 6, LOW, HIGH}) {
            refused("death of " + one, x, () -> x.death(one), UNKNOWN);
        }

        ClosedFeuds round = read("015,g124");
        round.heir(0, 4);
        round.heir(4, 5);
        round.heir(5, 4);
        round.death(4);
        due("5 has no sides", round.death(5), 0);
        due("it comes round to one asked", round.death(0), 0);
        due("so side 0 is open", round.about(0, 3), NONE);
        round.heir(1, 3);
        round.heir(3, 1);
        round.death(3);
        due("it comes round to himself", round.death(1), 0);
        due("open sides", round.count(3), 3);

        ClosedFeuds chain = read("015,g124");
        chain.heir(1, 3);
        chain.heir(3, 4);
        chain.death(3);
        due("along the heirs", chain.death(1), 2);
        due("to the heir's heir", chain.person(4, 3), 2);
    }

    private static void deathMoney() {
        ClosedFeuds x = read("015,g124,b451");
        x.heir(0, 1);
        x.death(0);
        due("money of the dead", x.person(0, 0), 0);
        due("money of the heir", x.person(1, 0), 18);
        due("the heir is on the other side", x.about(0, 3), NONE);
        seasons(x, 40);
        due("98 behind 40 seasons", x.person(1, 0), 98);
        x.heir(1, 2);
        due("two sides", x.death(1), 1);
        due("no more than 99", x.person(2, 0), 99);
        due("the rest is lost", x.person(1, 0), 0);
        x.death(2);
        due("without an heir it is lost", x.person(2, 0), 0);
        due("the others have what they had", x.person(3, 0), 89);

        ClosedFeuds loan = read("b015,g231");
        loan.lend(0, 1, 2);
        loan.heir(3, 2);
        due("a death of another one", loan.death(3), 0);
        due("what is lent to the heir stays", loan.about(0, 4), 2);
        loan.heir(0, 2);
        due("the other side is lent to the heir", loan.death(0), 0);
        due("open", loan.about(0, 3), NONE);
        due("still lent", loan.about(0, 6), 1);

        ClosedFeuds lender = read("b015");
        lender.lend(0, 0, 2);
        due("who lent side 0 dies", lender.death(0), 0);
        due("it is open", lender.about(0, 3), NONE);
        due("and not lent", lender.count(4), 0);

        ClosedFeuds borrower = read("b015");
        borrower.lend(0, 0, 2);
        due("to whom side 0 is lent dies", borrower.death(2), 0);
        due("it is back", borrower.about(0, 3), 0);
        due("and not lent any more", borrower.count(4), 0);

        ClosedFeuds owner = read("b015");
        owner.lend(0, 1, 2);
        owner.heir(0, 1);
        due("the heir has lent the other side", owner.death(0), 0);
    }

    // Promise 14
    private static void mayHarm() {
        ClosedFeuds x = read("013,b105,g015,j459,p121,j452");
        due("of most worth, the least", x.mayHarm(0, 1), 1);
        due("either way", x.mayHarm(1, 0), 1);
        due("worth, not price", x.mayHarm(5, 4), 3);
        due("nothing between", x.mayHarm(0, 2), NONE);
        x.lend(1, 0, 3);
        due("who lent it is not on it", x.mayHarm(0, 1), 2);
        due("to whom it is lent", x.mayHarm(0, 3), 1);
        due("and he", x.mayHarm(3, 0), 1);
        x.season();
        x.peace(1);
        due("a struck one is none", x.mayHarm(0, 1), 2);
        x.peace(2);
        due("what is left", x.mayHarm(0, 1), 0);
        x.death(0);
        due("dead", x.mayHarm(1, 0), NONE);
        due("by the dead", x.mayHarm(0, 1), NONE);
        due("both dead is not an open side", x.mayHarm(0, 2), NONE);
        for (int one : new int[] {-1, 6, LOW, HIGH}) {
            refused("mayHarm by " + one, x, () -> x.mayHarm(one, 1), UNKNOWN);
            refused("mayHarm of " + one, x, () -> x.mayHarm(1, one), UNKNOWN);
        }
        refused("mayHarm himself", x, () -> x.mayHarm(1, 1), UNKNOWN);
    }

    // Promise 15
    private static void harm() {
        ClosedFeuds x = read("013,g015,j459");
        due("harm", x.harm(1, 0), 1);
        due("harms", x.count(5), 1);
        refused("harm without a feud", x, () -> x.harm(0, 2), STATE);
        for (int many = 2; many <= 12; many++) {
            due("harm no. " + many, x.harm(4, 5), 2);
            due("harms", x.count(5), many);
        }
        refused("harm no. 13", x, () -> x.harm(4, 5), FULL);
        refused("harm that may not be, and full", x, () -> x.harm(0, 2), STATE);
        due("how many 4 harmed", x.person(4, 4), 11);
        due("by how many 0 was", x.person(0, 5), 1);
        for (int one : new int[] {-1, 6, LOW, HIGH}) {
            refused("harm by " + one, x, () -> x.harm(one, 1), UNKNOWN);
            refused("harm of " + one, x, () -> x.harm(1, one), UNKNOWN);
        }
        refused("harm himself", x, () -> x.harm(4, 4), UNKNOWN);
        x.death(4);
        refused("harm by a dead one", x, () -> x.harm(4, 5), STATE);
    }

    // Promise 16
    private static void season() {
        ClosedFeuds x = read("b013,g015,j459");
        due("nothing lent", x.season(), 0);
        x.lend(0, 0, 2);
        x.lend(0, 1, 3);
        x.lend(1, 1, 4);
        x.death(5);
        due("three go back", x.season(), 3);
        due("back 0", x.about(0, 3), 0);
        due("back 1", x.about(0, 4), 1);
        due("none lent", x.count(4), 0);
        due("2 more", x.person(0, 0), 13);
        due("none for the dead", x.person(5, 0), 0);
        seasons(x, 43);
        due("99 at most", x.person(0, 0), 99);
        seasons(x, 2);
        due("99 still", x.person(0, 0), 99);
    }

    // Promise 17
    private static void comeBy() {
        ClosedFeuds x = read("015,b234,g451");
        due("on both sides already", x.comeBy(0, 1, 0), 0);
        due("that feud", x.comeBy(1, 0, 1), 0);
        due("each buys one side: 2 and 2", x.comeBy(0, 2, 0), 4);
        due("the first of like ones", x.comeBy(0, 2, 1), 1);
        due("one side is his", x.comeBy(2, 4, 0), 2);
        due("the cheapest", x.comeBy(2, 4, 1), 2);
        long before = x.digest();
        x.comeBy(0, 3, 0);
        due("comeBy changes nothing", x.digest(), before);
        for (int one : new int[] {-1, 6, LOW, HIGH}) {
            refused("comeBy of " + one, x, () -> x.comeBy(one, 1, 2), UNKNOWN);
            refused("comeBy with " + one, x, () -> x.comeBy(1, one, 2), UNKNOWN);
        }
        refused("comeBy with himself", x, () -> x.comeBy(1, 1, 2), UNKNOWN);
        x.death(5);
        for (int what : new int[] {-1, 2, LOW, HIGH}) {
            refused("comeBy what " + what, x, () -> x.comeBy(5, 1, what), OUTSIDE);
        }
        refused("comeBy of a dead one", x, () -> x.comeBy(5, 1, 0), STATE);
        refused("comeBy with a dead one", x, () -> x.comeBy(1, 5, 1), STATE);

        ClosedFeuds dear = read("p019");
        due("neither has the money", dear.comeBy(2, 3, 0), NONE);
        due("nor a feud", dear.comeBy(2, 3, 1), NONE);
        due("he can't, the other needn't", dear.comeBy(0, 3, 0), NONE);

        ClosedFeuds swap = read("019");
        due("each has paid once", swap.buy(2, 0, 1), 9);
        // 2 has nothing, 1 has 18: 1 buys SIDE 0 from 0, 2 is on SIDE 1.
        due("one side bought", swap.comeBy(1, 2, 0), 9);
        // 0 is on SIDE 0; to be there with 1, 1 buys SIDE 1 from 2.
        due("the other side bought", swap.comeBy(0, 1, 0), 9);
        // 4 buys SIDE 0 from 0, who then has 18 and buys SIDE 1: or 0 stays and 4 buys SIDE 1.
        due("the cheaper way round", swap.comeBy(0, 4, 0), 9);
        due("one without money is on it", swap.comeBy(2, 4, 1), 0);

        ClosedFeuds open = read("018,b239");
        open.death(1);
        // SIDE 0 costs half (4), as SIDE 1 is open; then SIDE 1 costs 8.
        due("one behind the other", open.comeBy(4, 5, 0), 12);
        due("of the half open one", open.comeBy(4, 5, 1), 0);
        // SIDE 0 is 0's: 4 buys SIDE 1 for 8. Or 4 buys SIDE 0 for 4, and 0 SIDE 1 for 8.
        due("the open side in full", open.comeBy(0, 4, 0), 8);
        open.death(0);
        due("both open: half, then all", open.comeBy(4, 5, 0), 12);

        // 3 lent SIDE 1: he has to do with it, and can't buy; on it is 5.
        ClosedFeuds lent = read("b234");
        lent.lend(0, 1, 5);
        due("on the lent side", lent.comeBy(2, 5, 0), 0);
        due("a lent side is not sold", lent.comeBy(2, 4, 0), NONE);
        due("who lent it can't be on it", lent.comeBy(3, 2, 0), NONE);
        due("with whom it is lent to", lent.comeBy(4, 5, 0), 4);

        ClosedFeuds poor = read("019,019");
        poor.buy(2, 0, 0);
        due("2 is on side 0 without money", poor.comeBy(2, 3, 0), 9);
        poor.peace(0);
        due("a struck one is none", poor.comeBy(2, 3, 0), NONE);

        // SIDE 1 (16) is too dear for both; 4 buys SIDE 0 for half (8), and by that 0 has 17 and buys SIDE 1.
        ClosedFeuds paid = read("g018");
        paid.death(1);
        due("by what he got", paid.comeBy(0, 4, 0), 24);
        due("by what he got, told the other way", paid.comeBy(4, 0, 0), 24);
        due("two without a side can't", paid.comeBy(3, 4, 0), NONE);
    }

    // Promise 18
    private static void marry() {
        ClosedFeuds x = read("015,124,233,011,341");
        // 0-1 twice, 1-2, 2-3, 3-4: best is 0-1 with 2-3 (or 3-4).
        due("most", x.marry(0), 3);
        due("pairs", x.marry(1), 2);
        x.peace(0);
        // 0-1, 1-2, 2-3, 3-4: two, by two pairs.
        due("most behind a peace", x.marry(0), 2);
        due("pairs behind a peace", x.marry(1), 2);
        x.peace(3);
        x.peace(4);
        // 1-2, 2-3: one.
        due("one", x.marry(0), 1);
        due("one pair", x.marry(1), 1);
        x.death(2);
        due("none", x.marry(0), 0);
        due("no pair", x.marry(1), 0);
        for (int what : new int[] {-1, 2, LOW, HIGH}) {
            refused("marry " + what, x, () -> x.marry(what), OUTSIDE);
        }
        ClosedFeuds three = read("015,235,455,125,345,505,125");
        due("1-2 twice, 3-4, 5-0", three.marry(0), 4);
        due("three pairs", three.marry(1), 3);
        ClosedFeuds few = read("011,012,013,124,035");
        // 0-1 alone strikes three, 1-2 with 0-3 two.
        due("three by one", few.marry(0), 3);
        due("one pair is enough", few.marry(1), 1);
        ClosedFeuds tie = read("011,012,124,035");
        due("two by 0-1, or by 1-2 and 0-3", tie.marry(0), 2);
        due("the fewer pairs", tie.marry(1), 1);
        ClosedFeuds lent = read("b011,b012");
        lent.lend(1, 1, 3);
        due("who is on the sides", lent.marry(0), 1);
        lent.lend(0, 0, 3);
        due("not whose they are", lent.marry(0), 1);
        lent.lend(0, 1, 0 + 2);
        due("2-3 or 0-3", lent.marry(0), 1);
        ClosedFeuds none = new ClosedFeuds();
        refused("marry, no list, what", none, () -> none.marry(2), OUTSIDE);
    }

    // Promise 19
    private static void wills() {
        ClosedFeuds x = read("013,b124,j232,g341,p452");
        due("nobody dies", x.wills(0, 1), 2 + 4);
        x.heir(0, 2);
        x.heir(2, 5);
        due("0 dies", x.wills(1, 2), 1 + 8 + 16);
        due("who died is on none", x.wills(1, 0), 0);
        due("0 dies, then 2", x.wills(5, 5), 1 + 8 + 16 + 512);
        x.heir(5, 0);
        // 2 dies first, its heir 5 has what 2 had; 5 dies: its heir 0 has these and what 5 had.
        due("2 dies, then 5", x.wills(36, 0), 1 + 8 + 16 + 512);
        due("all die", x.wills(63, 3), 0);
        due("all of them", x.wills(63, 5), 0);
        x.heir(3, 4);
        due("by number: 3, then 4", x.wills(24, 5), 512);
        long before = x.digest();
        x.wills(63, 0);
        due("wills changes nothing", x.digest(), before);
        x.lend(1, 1, 0);
        due("lent to him", x.wills(0, 0), 1 + 8);
        due("lent by him", x.wills(0, 2), 16);
        due("lent by who died", x.wills(4, 0), 1);
        x.death(0);
        due("one of the set is dead", x.wills(1, 2), 1 + 8 + 16);
        due("of a dead one", x.wills(0, 0), 0);
        x.peace(4);
        due("a struck one has no sides", x.wills(0, 5), 0);
        for (int one : new int[] {-1, 6, LOW, HIGH}) {
            refused("wills of " + one, x, () -> x.wills(64, one), UNKNOWN);
        }
        for (int set : new int[] {-1, 64, LOW, HIGH}) {
            refused("wills of set " + set, x, () -> x.wills(set, 0), OUTSIDE);
        }
        ClosedFeuds none = new ClosedFeuds();
        refused("wills, no list, set", none, () -> none.wills(64, 0), OUTSIDE);
        ClosedFeuds last = read("011,011,011,011,011,011,011,541");
        due("the last bit", last.wills(0, 4), 1 << 15);
        due("the last but one", last.wills(0, 5), 1 << 14);
    }

    private static void dueLeft(ClosedFeuds x, int years, int many, long above, long below) {
        due("left " + years + " " + many + " above", x.left(years, many, 0), above);
        due("left " + years + " " + many + " below", x.left(years, many, 1), below);
    }

    // Promise 20
    private static void left() {
        ClosedFeuds x = read("019,g231");
        // Kept by 9 and by 1 tenths: both 9 / 100, one 81 + 1 of 100, none 9 / 100.
        dueLeft(x, 1, 2, 9, 100);
        dueLeft(x, 1, 1, 41, 50);
        dueLeft(x, 1, 0, 9, 100);
        dueLeft(x, 1, 3, 0, 1);
        dueLeft(x, 1, 8, 0, 1);
        // Kept by 81 and by 1 of 100: both 81, one 81 * 99 + 19, none 19 * 99, of 10000.
        dueLeft(x, 2, 2, 81, 10000);
        dueLeft(x, 2, 1, 4019, 5000);
        dueLeft(x, 2, 0, 1881, 10000);
        x.peace(0);
        dueLeft(x, 1, 1, 1, 10);
        dueLeft(x, 1, 0, 9, 10);
        dueLeft(x, 2, 2, 0, 1);
        x.peace(1);
        dueLeft(x, 2, 0, 1, 1);
        dueLeft(x, 1, 1, 0, 1);
        ClosedFeuds eight = read("019,019,019,019,019,019,019,019");
        dueLeft(eight, 2, 8, 1853020188851841L, 10000000000000000L);
        dueLeft(eight, 1, 8, 43046721L, 100000000L);
        dueLeft(eight, 1, 7, 4782969L, 12500000L);
        for (int wrong : new int[] {-1, 0, 3, LOW, HIGH}) {
            refused("left years " + wrong, x, () -> x.left(wrong, 0, 0), OUTSIDE);
        }
        for (int wrong : new int[] {-1, 9, LOW, HIGH}) {
            refused("left many " + wrong, x, () -> x.left(1, wrong, 0), OUTSIDE);
        }
        for (int wrong : new int[] {-1, 2, LOW, HIGH}) {
            refused("left part " + wrong, x, () -> x.left(1, 0, wrong), OUTSIDE);
        }
        ClosedFeuds none = new ClosedFeuds();
        refused("left, no list, part", none, () -> none.left(1, 0, 2), OUTSIDE);
    }

    // Promise 21
    private static void register() {
        ClosedFeuds x = new ClosedFeuds();
        for (int many = 1; many <= 8; many++) {
            due("register " + many, x.register(many % 6, (many + 1) % 6), many);
        }
        refused("register 9", x, () -> x.register(0, 1), FULL);
        for (int one : new int[] {-1, 6, LOW, HIGH}) {
            refused("register of " + one, x, () -> x.register(one, 1), UNKNOWN);
            refused("register with " + one, x, () -> x.register(1, one), UNKNOWN);
        }
        refused("register of himself", x, () -> x.register(5, 5), UNKNOWN);
        due("registers", x.count(6), 8);
    }

    // Promise 22
    private static void forget() {
        ClosedFeuds x = read("012");
        due("forget none", x.forget(), 0);
        x.register(2, 3);
        x.register(4, 5);
        x.harm(0, 1);
        due("fits none", x.lapsed(0), 0);
        due("forget", x.forget(), 2);
        due("registers", x.count(6), 0);
        due("harms stay", x.count(5), 1);
        due("all fit", x.lapsed(0), 15);
        due("register again", x.register(0, 1), 1);
    }

    // Promise 23
    private static void lapsed() {
        ClosedFeuds x = read("012,b233");
        due("all fit", x.lapsed(0), 15);
        due("not sure", x.lapsed(1), NONE);
        x.register(1, 0);
        due("told by a feud", x.lapsed(0), 15);
        x.register(5, 4);
        due("one fits", x.lapsed(0), 1);
        due("sure", x.lapsed(1), 29);
        x.register(4, 5);
        due("either way", x.lapsed(1), 29);
        x.register(3, 2);
        due("told by another feud", x.lapsed(1), 29);
        x.lend(1, 1, 0);
        due("who lent it is not on it", x.lapsed(0), 0);
        due("not sure of none", x.lapsed(1), NONE);
        x.season();
        x.peace(0);
        due("struck", x.lapsed(0), 0);
        x.forget();
        x.register(1, 0);
        due("between the two", x.lapsed(1), 1);
        x.death(0);
        due("dead ones too", x.lapsed(0), 1);
        x.register(2, 0);
        due("two unlike ones", x.lapsed(0), 0);
        for (int what : new int[] {-1, 2, LOW, HIGH}) {
            refused("lapsed " + what, x, () -> x.lapsed(what), OUTSIDE);
        }
        ClosedFeuds none = new ClosedFeuds();
        refused("lapsed, no list, what", none, () -> none.lapsed(2), OUTSIDE);
    }

    /** Lives the years by the calls of the class itself. */
    private static long[] live(ClosedFeuds x, int years, int seed) {
        java.math.BigInteger[] at = {java.math.BigInteger.valueOf(seed)};
        java.util.function.IntUnaryOperator draw = bound -> {
            at[0] = at[0].multiply(java.math.BigInteger.valueOf(1103515245)).add(java.math.BigInteger.valueOf(12345))
                    .mod(java.math.BigInteger.TWO.pow(31));
            return at[0].divide(java.math.BigInteger.valueOf(65536)).mod(java.math.BigInteger.valueOf(bound)).intValue();
        };
        for (int year = 0; year < years; year++) {
            int one = draw.applyAsInt(6);
            int feud = draw.applyAsInt(x.count(0));
            x.buy(one, feud, draw.applyAsInt(2));
            int ill = draw.applyAsInt(6);
            if (x.person(ill, 2) == 1 && draw.applyAsInt(4) == 0) {
                x.death(ill);
            }
            x.season();
        }
        long money = 0;
        for (int one = 0; one < 6; one++) {
            money += x.person(one, 0);
        }
        return new long[] {x.count(2), money, x.count(3), at[0].longValueExact()};
    }

    // Promise 24
    private static void years() {
        int[][] runs = {{1, 0}, {1, HIGH}, {2, 7}, {7, 12345}, {20, 99}, {60, 1}, {60, HIGH}};
        for (int[] run : runs) {
            ClosedFeuds x = read("013,b124,j232,g341,p452");
            x.heir(0, 2);
            x.heir(3, 1);
            x.peace(2);
            x.lend(1, 0, 5);
            long before = x.digest();
            long[] got = new long[4];
            for (int what = 0; what < 4; what++) {
                got[what] = x.years(run[0], run[1], what);
            }
            due("years change nothing", x.digest(), before);
            long[] want = live(x, run[0], run[1]);
            for (int what = 0; what < 4; what++) {
                due("years " + run[0] + " " + run[1] + " " + what, got[what], want[what]);
            }
        }
        ClosedFeuds x = read("013");
        for (int wrong : new int[] {-1, 0, 61, LOW, HIGH}) {
            refused("years " + wrong, x, () -> x.years(wrong, 0, 0), OUTSIDE);
        }
        for (int wrong : new int[] {-1, LOW}) {
            refused("years by seed " + wrong, x, () -> x.years(1, wrong, 0), OUTSIDE);
        }
        for (int wrong : new int[] {-1, 4, LOW, HIGH}) {
            refused("years what " + wrong, x, () -> x.years(1, 0, wrong), OUTSIDE);
        }
        ClosedFeuds none = new ClosedFeuds();
        refused("years, no list, what", none, () -> none.years(1, 0, 4), OUTSIDE);
    }

    // Promises 25 and 26
    private static void imageAndRestore() {
        ClosedFeuds x = read("013,b124,j232,g341,p452");
        refused("no image", x, x::restore, STATE);
        x.peace(0);
        x.heir(1, 3);
        x.lend(1, 0, 5);
        x.harm(3, 4);
        x.register(0, 5);
        long kept = x.digest();
        due("image", x.image(), 4);
        due("image changes nothing", x.digest(), kept);
        x.season();
        x.buy(0, 2, 0);
        x.heir(1, NONE);
        x.heir(2, 1);
        x.death(1);
        x.peace(2);
        x.harm(4, 3);
        x.forget();
        x.register(1, 2);
        x.register(1, 2);
        due("restore", x.restore(), 4);
        due("as it was", x.digest(), kept);
        due("who harmed", x.person(3, 4), 1);
        due("registers", x.lapsed(1), 5);
        x.death(4);
        due("restore again", x.restore(), 4);
        due("as it was again", x.digest(), kept);
        x.letter(48);
        x.restore();
        due("the page is not kept", x.count(7), 1);
        x.blank();
        x.season();
        x.peace(2);
        due("a later image", x.image(), 3);
        long later = x.digest();
        x.death(0);
        due("restore the later one", x.restore(), 3);
        due("as it was then", x.digest(), later);
        ClosedFeuds first = read("b013");
        due("image of the first feud", first.image(), 1);
        first.lend(0, 0, 4);
        first.season();
        due("it is struck", first.peace(0), 1);
        due("restore the first feud", first.restore(), 1);
        due("it is not struck", first.about(0, 2), 0);
        due("its side 0", first.about(0, 3), 0);
        due("its side 1", first.about(0, 4), 1);
        due("its money", first.person(5, 0), 9);
        write(x, "01");
        refused("a list that is none", x, x::list, STATE);
        due("no other list", x.restore(), 3);
        x.blank();
        write(x, "013");
        x.list();
        refused("another list since", x, x::restore, STATE);
        due("image of that list", x.image(), 1);
        due("restore of that list", x.restore(), 1);
        due("lists read", x.count(8), 2);
    }

    // Promise 27
    private static void count() {
        ClosedFeuds x = read("013,b124,j232,g341,p452");
        x.peace(2);
        x.death(0);
        x.lend(1, 0, 5);
        x.lend(3, 1, 5);
        x.harm(5, 2);
        x.register(0, 1);
        x.register(0, 1);
        x.register(0, 1);
        write(x, "abcdef");
        int[] counts = {5, 1, 5, 1, 2, 1, 3, 6, 1};
        for (int what = 0; what <= 8; what++) {
            due("count " + what, x.count(what), counts[what]);
        }
        for (int what : new int[] {-1, 9, LOW, HIGH}) {
            refused("count " + what, x, () -> x.count(what), OUTSIDE);
        }
    }

    private static long toldDigest(ClosedFeuds x, String page) {
        java.util.ArrayList<Integer> told = new java.util.ArrayList<>();
        for (int feud = 0; feud < x.count(0); feud++) {
            for (int what = 0; what <= 8; what++) {
                told.add(x.about(feud, what));
            }
        }
        for (int one = 0; one < 6; one++) {
            for (int what = 0; what <= 5; what++) {
                told.add(x.person(one, what));
            }
        }
        for (int a = 0; a < 6; a++) {
            for (int b = 0; b < 6; b++) {
                if (a != b) {
                    told.add(x.mayHarm(a, b));
                }
            }
        }
        if (x.count(0) > 0) {
            told.add(x.marry(0));
            told.add(x.marry(1));
            told.add(x.lapsed(0));
            told.add(x.lapsed(1));
        }
        for (char sign : page.toCharArray()) {
            told.add((int) sign);
        }
        for (int what = 0; what <= 8; what++) {
            told.add(x.count(what));
        }
        long h = 751;
        for (int number : told) {
            h = 31 * h + number;
        }
        return h;
    }

    // Promise 28
    private static void digest() {
        ClosedFeuds x = new ClosedFeuds();
        due("new digest", x.digest(), toldDigest(x, ""));
        write(x, "01");
        x.register(3, 4);
        due("digest without a list", x.digest(), toldDigest(x, "01"));
        x.blank();
        write(x, "013,b124,j232,g341,p452");
        x.list();
        due("digest with a list", x.digest(), toldDigest(x, ""));
        x.peace(2);
        x.lend(1, 0, 5);
        x.heir(3, 0);
        x.harm(5, 2);
        x.death(3);
        x.register(2, 4);
        write(x, "g~x");
        due("digest of much", x.digest(), toldDigest(x, "g~x"));
        due("digest again", x.digest(), toldDigest(x, "g~x"));
        ClosedFeuds twice = read("013,014");
        due("most and fewest are unlike", twice.marry(0) - twice.marry(1), 1);
        due("digest of these", twice.digest(), toldDigest(twice, ""));
        twice.register(2, 3);
        due("digest of a sure one", twice.digest(), toldDigest(twice, ""));
    }
}
