/** Each sentence on SIDES that names a boundary case: PRICE, BUYING, LENDING, PEACE, DEATH; promises 10 to 13. */
public final class SidesEdgesTest extends ByHand {
    public static void main(String[] args) {
        prices();
        halfWhileOpen();
        havingToDo();
        thePriceAsMoney();
        theSellerGets();
        nobodySells();
        eachSideIsBought();
        buyingCantBe();
        buyRefuses();
        lendingKinds();
        lendingCantBe();
        lendRefuses();
        peaces();
        peaceOfJokes();
        peaceRefuses();
        deathLoans();
        deathHeirs();
        deathComesRound();
        deathOtherSide();
        deathMoney();
        deathCounts();
        deathRefuses();
        tally.end();
    }

    private static void prices() {
        sentence("PRICE: WORTH; of a GRUDGE twice that, of a JOKE 1, of a PIG 3 more; half of it (rounded up)");
        String[] letters = {"", "b", "j", "g", "p"};
        int[][] whole = {{1, 2, 3, 4, 5, 6, 7, 8, 9}, {1, 2, 3, 4, 5, 6, 7, 8, 9}, {1, 1, 1, 1, 1, 1, 1, 1, 1},
            {2, 4, 6, 8, 10, 12, 14, 16, 18}, {5, 7, 9, 11, 13, 15, 17, 19, 21}};
        int[][] half = {{1, 1, 2, 2, 3, 3, 4, 4, 5}, {1, 1, 2, 2, 3, 3, 4, 4, 5}, {1, 1, 1, 1, 1, 1, 1, 1, 1},
            {1, 2, 3, 4, 5, 6, 7, 8, 9}, {3, 4, 5, 6, 7, 8, 9, 10, 11}};
        for (int kind = 0; kind < 5; kind++) {
            for (int worth = 1; worth <= 9; worth++) {
                int all = whole[kind][worth - 1];
                int part = half[kind][worth - 1];
                String text = letters[kind] + "01" + worth;
                ClosedFeuds x = read(text);
                duePrices(text, x, all, all);
                x.death(0);
                duePrices(text + ", SIDE 0 open", x, all, part);
                x.death(1);
                duePrices(text + ", both open", x, part, part);
                ClosedFeuds y = read(text);
                y.death(1);
                duePrices(text + ", SIDE 1 open", y, part, all);
            }
        }
    }

    private static void duePrices(String what, ClosedFeuds x, int side0, int side1) {
        due(what + ": SIDE 0", x.about(0, 7), side0);
        due(what + ": SIDE 1", x.about(0, 8), side1);
    }

    private static void halfWhileOpen() {
        sentence("half of it WHILE the other SIDE is OPEN");
        ClosedFeuds x = read("b017");
        x.death(0);
        x.death(1);
        due("half is paid", x.buy(2, 0, 0), 4);
        due("paid", x.person(2, 0), 5);
        duePrices("SIDE 0 is not open any more", x, 4, 7);
        due("all is paid", x.buy(3, 0, 1), 7);
        duePrices("none is open", x, 7, 7);
        x.lend(0, 0, 4);
        duePrices("a LENT SIDE is not open", x, 7, 7);
    }

    private static void havingToDo() {
        sentence("One HAS TO DO with a FEUD, if a SIDE of it is his, or LENT to him");
        ClosedFeuds x = read("b011,g231");
        x.lend(0, 0, 4);
        refused("whose SIDE 0 is (he has LENT it) buys SIDE 1", x, () -> x.buy(0, 0, 1), STATE);
        refused("to whom SIDE 0 is LENT buys SIDE 1", x, () -> x.buy(4, 0, 1), STATE);
        refused("whose SIDE 1 is has it LENT", x, () -> x.lend(0, 1, 1), STATE);
        refused("whose SIDE 0 is has SIDE 1 LENT", x, () -> x.lend(0, 1, 0), STATE);
        refused("to whom SIDE 0 is LENT has SIDE 1 LENT", x, () -> x.lend(0, 1, 4), STATE);
        due("one who has not has it LENT", x.lend(0, 1, 5), 1);
        x.season();
        x.lend(0, 1, 4);
        refused("whose SIDE 1 is (he has LENT it) buys SIDE 0", x, () -> x.buy(1, 0, 0), STATE);
        refused("to whom SIDE 1 is LENT buys SIDE 0", x, () -> x.buy(4, 0, 0), STATE);
        refused("whose SIDE 1 is has SIDE 0 LENT", x, () -> x.lend(0, 0, 1), STATE);
        refused("to whom SIDE 1 is LENT has SIDE 0 LENT", x, () -> x.lend(0, 0, 4), STATE);
        due("who has TO DO with another FEUD alone buys", x.buy(2, 0, 0), 1);
        due("and another one has it LENT", x.lend(1, 0, 4), 2);
    }

    private static void thePriceAsMoney() {
        sentence("10: has the PRICE as MONEY, pays it (MONEY 0 to 99)");
        ClosedFeuds just = read("019");
        due("9 of 9", just.buy(2, 0, 0), 9);
        due("nothing is left", just.person(2, 0), 0);
        due("the SIDE is his", just.about(0, 3), 2);
        ClosedFeuds less = read("g015");
        refused("9 of 10", less, () -> less.buy(2, 0, 0), STATE);
        less.season();
        due("11 of 10", less.buy(2, 0, 0), 10);
        due("1 is left", less.person(2, 0), 1);
        ClosedFeuds nothing = read("019,j231");
        nothing.buy(5, 0, 1);
        refused("0 of 1", nothing, () -> nothing.buy(5, 1, 0), STATE);
        ClosedFeuds half = read("p017");
        half.death(0);
        due("9 of 9, half of 17", half.buy(2, 0, 1), 9);
        refused("9 of 17", half, () -> half.buy(3, 0, 0), STATE);
        ClosedFeuds full = read("p019");
        seasons(full, 45);
        due("99", full.person(2, 0), 99);
        due("21 of 99", full.buy(2, 0, 0), 21);
        due("78 are left", full.person(2, 0), 78);
    }

    private static void theSellerGets() {
        sentence("10: he whose it was gets the PRICE (as much as there is room up to 99)");
        int[] worths = {1, 2, 3, 9};
        int[] then = {98, 99, 99, 99};
        for (int i = 0; i < worths.length; i++) {
            ClosedFeuds x = read("01" + worths[i]);
            seasons(x, 44);
            due("97", x.person(1, 0), 97);
            due("all is paid", x.buy(2, 0, 1), worths[i]);
            due("by him", x.person(2, 0), 97 - worths[i]);
            due("he gets", x.person(1, 0), then[i]);
            due("the other one nothing", x.person(0, 0), 97);
        }
        ClosedFeuds full = read("014");
        seasons(full, 45);
        due("99 there", full.buy(2, 0, 0), 4);
        due("no room", full.person(0, 0), 99);
        due("95", full.person(2, 0), 95);
    }

    private static void nobodySells() {
        sentence("10: an OPEN SIDE: nobody gets the PRICE");
        ClosedFeuds x = read("014");
        x.death(0);
        due("bought", x.buy(2, 0, 0), 4);
        int[] money = {0, 9, 5, 9, 9, 9};
        for (int one = 0; one <= 5; one++) {
            due("money of " + one, x.person(one, 0), money[one]);
        }
        due("none is OPEN", x.count(3), 0);
        due("whose it is", x.about(0, 3), 2);
    }

    private static void eachSideIsBought() {
        sentence("10: pays it; the SIDE is his then; he whose it was gets the PRICE: each SIDE of eight FEUDS");
        for (int feud = 0; feud < 8; feud++) {
            for (int side = 0; side < 2; side++) {
                ClosedFeuds x = read("011,012,013,014,015,016,017,018");
                int other = (feud + 1) % 8;
                due("PRICE", x.buy(4, feud, side), feud + 1);
                due("whose it is", x.about(feud, 3 + side), 4);
                due("whose the other SIDE is", x.about(feud, 4 - side), 1 - side);
                due("on another FEUD, SIDE 0", x.about(other, 3), 0);
                due("on another FEUD, SIDE 1", x.about(other, 4), 1);
                due("he pays", x.person(4, 0), 8 - feud);
                due("he gets", x.person(side, 0), 10 + feud);
                due("the other one has his", x.person(1 - side, 0), 9);
            }
        }
    }

    private static void buyingCantBe() {
        sentence("10: STATE: it can't be (LENT, dead, TO DO with it, MONEY, STRUCK)");
        ClosedFeuds x = read("b011,b011,g019");
        x.lend(0, 0, 2);
        refused("SIDE 0 is LENT", x, () -> x.buy(3, 0, 0), STATE);
        refused("to whom it is LENT", x, () -> x.buy(2, 0, 0), STATE);
        refused("who LENT it", x, () -> x.buy(0, 0, 0), STATE);
        due("the other SIDE", x.buy(3, 0, 1), 1);
        x.lend(0, 1, 4);
        refused("SIDE 1 is LENT", x, () -> x.buy(5, 0, 1), STATE);
        refused("his own SIDE", x, () -> x.buy(0, 1, 0), STATE);
        refused("the one over against his", x, () -> x.buy(0, 1, 1), STATE);
        refused("9 of 18", x, () -> x.buy(3, 2, 0), STATE);
        x.death(5);
        refused("a dead one", x, () -> x.buy(5, 1, 0), STATE);
        x.peace(1);
        refused("a STRUCK one, SIDE 0", x, () -> x.buy(3, 1, 0), STATE);
        refused("a STRUCK one, SIDE 1", x, () -> x.buy(3, 1, 1), STATE);
    }

    private static void buyRefuses() {
        sentence("10: UNKNOWN: person, feud; OUTSIDE: side (0, 1); STATE: in this order");
        ClosedFeuds x = read("011,451");
        ClosedFeuds none = new ClosedFeuds();
        x.death(3);
        for (int one : NO_PERSON) {
            refused("person " + one, x, () -> x.buy(one, 0, 0), UNKNOWN);
            refused("person " + one + " and side", x, () -> x.buy(one, 0, 2), UNKNOWN);
            refused("person " + one + ", no LIST", none, () -> none.buy(one, 0, 0), UNKNOWN);
        }
        for (int feud : new int[] {-1, 2, 8, LOW, HIGH}) {
            refused("feud " + feud, x, () -> x.buy(2, feud, 0), UNKNOWN);
            refused("feud " + feud + " and side", x, () -> x.buy(2, feud, -1), UNKNOWN);
            refused("feud " + feud + " and dead", x, () -> x.buy(3, feud, 0), UNKNOWN);
        }
        for (int side : new int[] {-1, 2, 3, LOW, HIGH}) {
            refused("side " + side, x, () -> x.buy(2, 0, side), OUTSIDE);
            refused("side " + side + " and dead", x, () -> x.buy(3, 0, side), OUTSIDE);
            refused("side " + side + " and TO DO with it", x, () -> x.buy(0, 0, side), OUTSIDE);
        }
        refused("no LIST", none, () -> none.buy(0, 0, 0), UNKNOWN);
        due("the last person, the first feud", x.buy(5, 0, 1), 1);
        due("the first person, the last feud", x.buy(0, 1, 0), 1);
    }

    private static void lendingKinds() {
        sentence("11: of a BOUNDARY, or a GRUDGE (a PIG, too)");
        String[] letters = {"", "b", "j", "g", "p"};
        boolean[] canBe = {false, true, false, true, true};
        for (int kind = 0; kind < 5; kind++) {
            for (int side = 0; side < 2; side++) {
                ClosedFeuds x = read(letters[kind] + "019");
                int which = side;
                if (canBe[kind]) {
                    due("kind " + kind + ", side " + side, x.lend(0, side, 4), side);
                    due("on it", x.about(0, 3 + side), 4);
                    due("who LENT it", x.about(0, 5 + side), side);
                    due("on the other one", x.about(0, 4 - side), 1 - side);
                    due("MONEY is not asked for", x.person(4, 0), 9);
                } else {
                    refused("kind " + kind + ", side " + side, x, () -> x.lend(0, which, 4), STATE);
                }
            }
        }
    }

    private static void lendingCantBe() {
        sentence("11: STATE: it can't be (OPEN, LENT yet, dead, TO DO with it, STRUCK)");
        ClosedFeuds x = read("b011,g231");
        x.lend(0, 0, 2);
        refused("LENT yet, to another one", x, () -> x.lend(0, 0, 3), STATE);
        refused("LENT yet, to the same one", x, () -> x.lend(0, 0, 2), STATE);
        refused("LENT yet, back to him", x, () -> x.lend(0, 0, 0), STATE);
        due("the other SIDE", x.lend(0, 1, 3), 1);
        due("until the SEASON ends", x.season(), 2);
        due("LENT again", x.lend(0, 0, 3), 0);
        x.season();
        refused("to himself", x, () -> x.lend(0, 0, 0), STATE);
        refused("to the one over against him", x, () -> x.lend(0, 0, 1), STATE);
        x.death(5);
        refused("to a dead one", x, () -> x.lend(0, 0, 5), STATE);
        x.death(1);
        refused("an OPEN SIDE", x, () -> x.lend(0, 1, 3), STATE);
        due("over against an OPEN SIDE", x.lend(0, 0, 3), 0);
        x.peace(1);
        refused("of a STRUCK one", x, () -> x.lend(1, 0, 4), STATE);
        refused("of a STRUCK one, SIDE 1", x, () -> x.lend(1, 1, 4), STATE);
    }

    private static void lendRefuses() {
        sentence("11: UNKNOWN: feud, person; OUTSIDE: side; STATE: in this order");
        ClosedFeuds x = read("b011,451");
        ClosedFeuds none = new ClosedFeuds();
        x.death(3);
        for (int one : NO_PERSON) {
            refused("person " + one, x, () -> x.lend(0, 0, one), UNKNOWN);
            refused("person " + one + " and side", x, () -> x.lend(0, 2, one), UNKNOWN);
            refused("person " + one + " and no such kind", x, () -> x.lend(1, 0, one), UNKNOWN);
        }
        for (int feud : new int[] {-1, 2, 8, LOW, HIGH}) {
            refused("feud " + feud, x, () -> x.lend(feud, 0, 2), UNKNOWN);
            refused("feud " + feud + " and side", x, () -> x.lend(feud, 2, 2), UNKNOWN);
            refused("feud " + feud + " and dead", x, () -> x.lend(feud, 0, 3), UNKNOWN);
        }
        for (int side : new int[] {-1, 2, 3, LOW, HIGH}) {
            refused("side " + side, x, () -> x.lend(0, side, 2), OUTSIDE);
            refused("side " + side + " and dead", x, () -> x.lend(0, side, 3), OUTSIDE);
            refused("side " + side + " and no such kind", x, () -> x.lend(1, side, 2), OUTSIDE);
        }
        refused("no LIST", none, () -> none.lend(0, 0, 0), UNKNOWN);
    }

    private static void peaces() {
        sentence("12: a FEUD of which no SIDE is LENT, none OPEN, is STRUCK: how many are then");
        ClosedFeuds x = read("011,b122,j233,g344,p455,506,b017,128");
        for (int feud = 7; feud >= 0; feud--) {
            due("peace of " + feud, x.peace(feud), 8 - feud);
            due("struck", x.about(feud, 2), 1);
        }
        due("all are", x.count(1), 8);
        due("no SIDE is OPEN by that", x.count(3), 0);
        for (int side = 0; side < 2; side++) {
            ClosedFeuds lent = read("g011");
            lent.lend(0, side, 2);
            refused("SIDE " + side + " is LENT", lent, () -> lent.peace(0), STATE);
            lent.season();
            due("not any more", lent.peace(0), 1);
            ClosedFeuds open = read("g011,231");
            open.death(side);
            refused("SIDE " + side + " is OPEN", open, () -> open.peace(0), STATE);
            open.season();
            open.buy(4, 0, side);
            due("bought", open.peace(0), 1);
        }
    }

    private static void peaceOfJokes() {
        sentence("12: none OPEN (of a JOKE no more than one)");
        for (int side = 0; side < 2; side++) {
            ClosedFeuds x = read("j019");
            x.death(side);
            due("SIDE " + side + " is OPEN", x.peace(0), 1);
            due("none is OPEN then", x.count(3), 0);
        }
        ClosedFeuds both = read("j019");
        both.death(0);
        both.death(1);
        refused("both are OPEN", both, () -> both.peace(0), STATE);
        both.buy(2, 0, 1);
        due("one is", both.peace(0), 1);
        for (String letter : new String[] {"", "b", "g", "p"}) {
            ClosedFeuds x = read(letter + "019");
            x.death(0);
            refused("one OPEN, of no JOKE", x, () -> x.peace(0), STATE);
        }
    }

    private static void peaceRefuses() {
        sentence("12: UNKNOWN; STATE: it can't be");
        ClosedFeuds x = read("011,231");
        ClosedFeuds none = new ClosedFeuds();
        for (int feud : new int[] {-1, 2, 8, LOW, HIGH}) {
            refused("feud " + feud, x, () -> x.peace(feud), UNKNOWN);
        }
        refused("no LIST", none, () -> none.peace(0), UNKNOWN);
        x.peace(1);
        refused("STRUCK for ever", x, () -> x.peace(1), STATE);
        due("how many", x.peace(0), 2);
        refused("STRUCK, too", x, () -> x.peace(0), STATE);
    }

    private static void deathLoans() {
        sentence("13: what is LENT to him, and what he has LENT, goes back");
        ClosedFeuds x = read("b011,g231,p451");
        x.lend(0, 0, 2);
        x.lend(1, 0, 0);
        x.lend(2, 1, 1);
        due("death", x.death(0), 0);
        due("what he has LENT is OPEN", x.about(0, 3), NONE);
        due("nobody has LENT it", x.about(0, 5), NONE);
        due("what was LENT to him is back", x.about(1, 3), 2);
        due("nobody has LENT that", x.about(1, 5), NONE);
        due("others' loans stay", x.about(2, 4), 1);
        due("he has LENT it", x.about(2, 6), 5);
        due("one is LENT", x.count(4), 1);
        ClosedFeuds heir = read("b011");
        heir.heir(0, 2);
        heir.lend(0, 0, 2);
        due("what he has LENT to his HEIR is the HEIR's", heir.death(0), 1);
        due("on it", heir.about(0, 3), 2);
        due("not LENT", heir.about(0, 5), NONE);
    }

    private static void deathHeirs() {
        sentence("13: goes to his HEIR, if he is alive, else to that one's HEIR, and so on");
        for (int deadOnes = 0; deadOnes <= 4; deadOnes++) {
            ClosedFeuds x = read("b051,b051");
            x.heir(0, 1);
            x.heir(1, 2);
            x.heir(2, 3);
            x.heir(3, 4);
            x.heir(4, NONE);
            for (int one = 1; one <= deadOnes; one++) {
                x.death(one);
            }
            due("dead ones " + deadOnes, x.death(0), deadOnes < 4 ? 2 : 0);
            due("to", x.about(0, 3), deadOnes < 4 ? deadOnes + 1 : NONE);
            due("to, the other FEUD", x.about(1, 3), deadOnes < 4 ? deadOnes + 1 : NONE);
        }
        ClosedFeuds far = read("b011");
        for (int one = 0; one < 5; one++) {
            far.heir(one, one + 1);
        }
        // 2 HAS TO DO with SIDE 0, so that 1's SIDE is OPEN and nobody is over against 0's.
        far.lend(0, 0, 2);
        for (int one = 1; one < 5; one++) {
            due("none goes from " + one, far.death(one), 0);
        }
        due("along four dead ones", far.death(0), 1);
        due("to the last one", far.about(0, 3), 5);
        due("with all MONEY", far.person(5, 0), 54);
        sentence("13: it is OPEN, if there is none");
        ClosedFeuds none = read("011");
        due("no HEIR", none.death(0), 0);
        due("OPEN", none.count(3), 1);
    }

    private static void deathComesRound() {
        sentence("13: it is OPEN, if it comes round to one who was asked already");
        ClosedFeuds asked = read("051");
        asked.heir(0, 1);
        asked.heir(1, 2);
        asked.heir(2, 1);
        asked.death(1);
        asked.death(2);
        due("1, 2, 1", asked.death(0), 0);
        due("OPEN", asked.about(0, 3), NONE);
        sentence("13: it is OPEN, if it comes round to himself");
        ClosedFeuds himself = read("051");
        himself.heir(0, 1);
        himself.heir(1, 0);
        himself.death(1);
        due("1, 0", himself.death(0), 0);
        due("OPEN", himself.about(0, 3), NONE);
        due("MONEY is lost", himself.person(0, 0), 0);
        ClosedFeuds all = read("051");
        for (int one = 0; one <= 5; one++) {
            all.heir(one, (one + 1) % 6);
        }
        for (int one = 1; one <= 5; one++) {
            all.death(one);
        }
        due("round all six", all.death(0), 0);
        due("nobody is alive", all.count(2), 0);
        due("both are OPEN", all.count(3), 2);
    }

    private static void deathOtherSide() {
        sentence("13: it is OPEN, if that one HAS TO DO with the other SIDE");
        ClosedFeuds his = read("b011,b021");
        his.heir(0, 1);
        due("it is his: of two one goes", his.death(0), 1);
        due("OPEN", his.about(0, 3), NONE);
        due("goes", his.about(1, 3), 1);
        ClosedFeuds lentOut = read("b011");
        lentOut.heir(0, 1);
        lentOut.lend(0, 1, 3);
        due("it is his, and LENT", lentOut.death(0), 0);
        due("OPEN", lentOut.about(0, 3), NONE);
        due("still LENT", lentOut.about(0, 4), 3);
        ClosedFeuds lent = read("b011");
        lent.heir(1, 3);
        lent.lend(0, 0, 3);
        due("it is LENT to him", lent.death(1), 0);
        due("OPEN", lent.about(0, 4), NONE);
        due("he is on the other one", lent.about(0, 3), 3);
        sentence("13: ... and does not go on to that one's HEIR");
        ClosedFeuds on = read("011");
        on.heir(0, 1);
        on.heir(1, 2);
        due("to nobody", on.death(0), 0);
        due("2 has none", on.person(2, 3), 0);
    }

    private static void deathMoney() {
        sentence("13: his MONEY goes to the same one (as much as there is room up to 99), the rest is lost");
        int[] seasons = {0, 20, 21, 45};
        int[] heirs = {18, 98, 99, 99};
        for (int i = 0; i < seasons.length; i++) {
            ClosedFeuds x = read("011");
            x.heir(0, 4);
            seasons(x, seasons[i]);
            due("SIDES", x.death(0), 1);
            due("MONEY of the HEIR", x.person(4, 0), heirs[i]);
            due("MONEY of the dead", x.person(0, 0), 0);
            due("of another one", x.person(3, 0), 9 + 2 * seasons[i]);
        }
        ClosedFeuds just = read("011");
        seasons(just, 20);
        just.buy(2, 0, 0);
        just.heir(0, 3);
        due("50 and 49", just.death(0), 0);
        due("are 99", just.person(3, 0), 99);
        ClosedFeuds over = read("011");
        over.heir(0, 1);
        due("no SIDE goes", over.death(0), 0);
        due("MONEY does", over.person(1, 0), 18);
        ClosedFeuds along = read("011");
        along.heir(0, 2);
        along.heir(2, 3);
        along.death(2);
        due("2's to 3", along.person(3, 0), 18);
        along.death(0);
        due("0's to 3, by 2", along.person(3, 0), 27);
        ClosedFeuds lost = read("011");
        lost.death(0);
        due("without an HEIR it is lost", lost.person(0, 0), 0);
        for (int one = 1; one <= 5; one++) {
            due("the others have theirs", lost.person(one, 0), 9);
        }
    }

    private static void deathCounts() {
        sentence("13: how many SIDES go to somebody");
        ClosedFeuds eight = read("011,101,021,201,031,301,041,401");
        eight.heir(0, 5);
        due("all eight", eight.death(0), 8);
        due("5 is on all", eight.person(5, 3), 8);
        due("none is OPEN", eight.count(3), 0);
        due("who is on none", read("011").death(5), 0);
        ClosedFeuds struck = read("011,021");
        struck.heir(0, 5);
        struck.peace(0);
        due("a STRUCK one has no SIDES", struck.death(0), 1);
        due("nobody is on it", struck.about(0, 3), NONE);
    }

    private static void deathRefuses() {
        sentence("13: UNKNOWN; STATE: no LIST, or he is dead");
        ClosedFeuds x = read("011");
        ClosedFeuds none = new ClosedFeuds();
        for (int one : NO_PERSON) {
            refused("person " + one, x, () -> x.death(one), UNKNOWN);
            refused("person " + one + ", no LIST", none, () -> none.death(one), UNKNOWN);
        }
        for (int one = 0; one <= 5; one++) {
            int who = one;
            refused("no LIST", none, () -> none.death(who), STATE);
            due("death of " + one, x.death(one), 0);
            refused("dead", x, () -> x.death(who), STATE);
            due("alive", x.count(2), 5 - one);
        }
    }
}
