/** Each sentence on PEOPLE, MONEY and HARMS that names a boundary case: "Terms", promises 8, 9 and 14 to 16. */
public final class PeopleEdgesTest extends ByHand {
    public static void main(String[] args) {
        sidesOfAPerson();
        harmsOfAPerson();
        personRefuses();
        heirs();
        heirRefuses();
        mostWorthThenLeast();
        bothAlive();
        bothSides();
        mayHarmRefuses();
        twelveHarms();
        harmRefuses();
        seasonMoney();
        seasonLoans();
        tally.end();
    }

    private static void sidesOfAPerson() {
        sentence("8: on how many SIDES he is");
        ClosedFeuds x = read("b011,b021,b031,b041,b051,b101,b201,b301");
        due("all eight", x.person(0, 3), 8);
        for (int feud = 0; feud < 8; feud++) {
            x.lend(feud, feud < 5 ? 0 : 1, feud == 4 ? 1 : 5);
            due("lent " + (feud + 1), x.person(0, 3), 7 - feud);
        }
        due("to whom seven are lent, and one of his own", x.person(5, 3), 8);
        due("to whom one is lent", x.person(1, 3), 3);
        x.season();
        due("back", x.person(0, 3), 8);
        x.peace(0);
        due("one struck", x.person(0, 3), 7);
        x.death(0);
        due("dead", x.person(0, 3), 0);
    }

    private static void harmsOfAPerson() {
        sentence("8: how many he HARMED, by how many he was");
        ClosedFeuds x = read("011,021,031");
        due("none", x.person(0, 4), 0);
        for (int many = 1; many <= 3; many++) {
            x.harm(0, many);
            due("harmed", x.person(0, 4), many);
            due("was harmed", x.person(many, 5), 1);
            due("harmed nobody", x.person(many, 4), 0);
            x.harm(many, 0);
            due("by how many", x.person(0, 5), many);
        }
        x.peace(0);
        x.death(0);
        due("HARMS are kept behind a peace and a death", x.person(0, 4), 3);
        due("and those by others", x.person(0, 5), 3);
    }

    private static void personRefuses() {
        sentence("8: UNKNOWN; OUTSIDE");
        ClosedFeuds x = read("051");
        due("the first", x.person(0, 5), 0);
        due("the last", x.person(5, 0), 9);
        for (int one : NO_PERSON) {
            refused("person " + one, x, () -> x.person(one, 0), UNKNOWN);
            refused("person " + one + " ahead of what", x, () -> x.person(one, 6), UNKNOWN);
        }
        for (int what : new int[] {-1, 6, LOW, HIGH}) {
            refused("what " + what, x, () -> x.person(5, what), OUTSIDE);
        }
    }

    private static void heirs() {
        sentence("9: the HEIR becomes another one (NONE: none): who it was");
        ClosedFeuds x = read("051");
        for (int one = 0; one <= 5; one++) {
            int was = NONE;
            for (int heir = 0; heir <= 5; heir++) {
                if (heir != one) {
                    due("heir " + heir + " of " + one, x.heir(one, heir), was);
                    due("told", x.person(one, 1), heir);
                    was = heir;
                }
            }
            due("the same again", x.heir(one, was), was);
            due("none", x.heir(one, NONE), was);
            due("none again", x.heir(one, NONE), NONE);
            due("none told", x.person(one, 1), NONE);
        }
        x.death(3);
        due("a dead HEIR is another one", x.heir(0, 3), NONE);
        due("he is told", x.person(0, 1), 3);
        due("none in his place", x.heir(0, NONE), 3);
    }

    private static void heirRefuses() {
        sentence("9: UNKNOWN: person, heir, or they are the same; STATE: no LIST, or he is dead");
        ClosedFeuds x = read("051");
        ClosedFeuds none = new ClosedFeuds();
        x.heir(2, 4);
        x.death(2);
        for (int one : NO_PERSON) {
            refused("person " + one, x, () -> x.heir(one, 0), UNKNOWN);
            refused("person " + one + ", no LIST", none, () -> none.heir(one, 0), UNKNOWN);
        }
        for (int heir : new int[] {-2, 6, LOW, HIGH}) {
            refused("heir " + heir, x, () -> x.heir(0, heir), UNKNOWN);
            refused("heir " + heir + " of a dead one", x, () -> x.heir(2, heir), UNKNOWN);
            refused("heir " + heir + ", no LIST", none, () -> none.heir(0, heir), UNKNOWN);
        }
        for (int one = 0; one <= 5; one++) {
            int same = one;
            refused("the same", x, () -> x.heir(same, same), UNKNOWN);
            refused("the same, no LIST", none, () -> none.heir(same, same), UNKNOWN);
        }
        refused("no person and none", x, () -> x.heir(NONE, NONE), UNKNOWN);
        refused("no LIST", none, () -> none.heir(0, 1), STATE);
        refused("no LIST, none", none, () -> none.heir(0, NONE), STATE);
        refused("a dead one", x, () -> x.heir(2, 1), STATE);
        refused("a dead one, none", x, () -> x.heir(2, NONE), STATE);
        due("the dead one's HEIR stays", x.person(2, 1), 4);
    }

    private static void mostWorthThenLeast() {
        sentence("14: of several it is by that of most WORTH, of like ones the least");
        ClosedFeuds x = read("011,p108,j019,g108,b019,102,018,101");
        int[] inTurn = {2, 4, 1, 3, 6, 5, 0, 7};
        for (int feud : inTurn) {
            due("0 by feud", x.mayHarm(0, 1), feud);
            due("1 by feud", x.mayHarm(1, 0), feud);
            x.peace(feud);
        }
        due("all struck", x.mayHarm(0, 1), NONE);
        due("all struck, the other way", x.mayHarm(1, 0), NONE);
    }

    private static void bothAlive() {
        sentence("14: if both are alive");
        ClosedFeuds x = read("011,021");
        x.heir(0, 3);
        x.death(0);
        due("by a dead one", x.mayHarm(0, 1), NONE);
        due("of a dead one", x.mayHarm(1, 0), NONE);
        due("the HEIR may", x.mayHarm(3, 1), 0);
        due("he may be", x.mayHarm(2, 3), 1);
        x.death(4);
        due("two dead ones", x.mayHarm(0, 4), NONE);
    }

    private static void bothSides() {
        sentence("14: if they are on both SIDES of a FEUD (whose it is, or to whom it is LENT)");
        ClosedFeuds x = read("b011,121");
        due("on SIDES of two unlike ones", x.mayHarm(0, 2), NONE);
        due("one on none", x.mayHarm(0, 5), NONE);
        x.lend(0, 0, 4);
        due("who LENT it", x.mayHarm(0, 1), NONE);
        due("to whom", x.mayHarm(4, 1), 0);
        due("who LENT it, and to whom", x.mayHarm(0, 4), NONE);
        x.lend(0, 1, 5);
        due("both LENT", x.mayHarm(5, 4), 0);
        due("one side's, to whom the other is LENT", x.mayHarm(4, 1), NONE);
        x.death(1);
        x.season();
        due("an OPEN SIDE", x.mayHarm(0, 1), NONE);
        due("nobody is on it", x.mayHarm(0, 5), NONE);
    }

    private static void mayHarmRefuses() {
        sentence("14: UNKNOWN: a, b, or they are the same");
        ClosedFeuds x = read("051");
        ClosedFeuds none = new ClosedFeuds();
        for (int one : NO_PERSON) {
            refused("a " + one, x, () -> x.mayHarm(one, 5), UNKNOWN);
            refused("b " + one, x, () -> x.mayHarm(5, one), UNKNOWN);
            refused("both " + one, x, () -> x.mayHarm(one, one), UNKNOWN);
            refused("a " + one + ", no LIST", none, () -> none.mayHarm(one, 5), UNKNOWN);
        }
        for (int one = 0; one <= 5; one++) {
            int same = one;
            refused("the same " + one, x, () -> x.mayHarm(same, same), UNKNOWN);
        }
        due("the first and the last", x.mayHarm(0, 5), 0);
        due("no LIST", none.mayHarm(0, 5), NONE);
    }

    private static void twelveHarms() {
        sentence("15: HARMS are kept (12 at most); FULL");
        ClosedFeuds x = read("011,231");
        for (int many = 1; many <= 12; many++) {
            due("harm " + many, many % 2 == 0 ? x.harm(0, 1) : x.harm(3, 2), many % 2 == 0 ? 0 : 1);
            due("harms", x.count(5), many);
        }
        refused("harm 13", x, () -> x.harm(0, 1), FULL);
        refused("harm 13 of others", x, () -> x.harm(2, 3), FULL);
        due("harms", x.count(5), 12);
        due("by 0", x.person(0, 4), 6);
        due("by 3", x.person(3, 4), 6);
        due("of 1, as often as it was", x.person(1, 5), 6);
        due("of 2, as often as it was", x.person(2, 5), 6);
        sentence("15: STATE is told ahead of FULL, UNKNOWN ahead of both");
        refused("he may not, and full", x, () -> x.harm(0, 2), STATE);
        refused("unknown, and full", x, () -> x.harm(0, 6), UNKNOWN);
        refused("the same, and full", x, () -> x.harm(0, 0), UNKNOWN);
        due("mayHarm is never full", x.mayHarm(0, 1), 0);
    }

    private static void harmRefuses() {
        sentence("15: UNKNOWN, as mayHarm(); STATE: he may not");
        ClosedFeuds x = read("051");
        ClosedFeuds none = new ClosedFeuds();
        for (int one : NO_PERSON) {
            refused("a " + one, x, () -> x.harm(one, 5), UNKNOWN);
            refused("b " + one, x, () -> x.harm(5, one), UNKNOWN);
            refused("b " + one + ", no LIST", none, () -> none.harm(5, one), UNKNOWN);
        }
        refused("the same", x, () -> x.harm(5, 5), UNKNOWN);
        refused("no FEUD between", x, () -> x.harm(0, 4), STATE);
        refused("no LIST", none, () -> none.harm(0, 5), STATE);
        due("he may", x.harm(5, 0), 0);
        x.death(5);
        refused("by a dead one", x, () -> x.harm(5, 0), STATE);
        refused("of a dead one", x, () -> x.harm(0, 5), STATE);
    }

    private static void seasonMoney() {
        sentence("16: each who is alive has 2 MONEY more (99 at most)");
        ClosedFeuds x = read("011,451");
        x.buy(2, 0, 0);
        x.death(3);
        for (int many = 1; many <= 44; many++) {
            due("season " + many, x.season(), 0);
        }
        due("97", x.person(1, 0), 97);
        due("96", x.person(2, 0), 96);
        due("98", x.person(0, 0), 98);
        x.season();
        due("97 and 2 is 99", x.person(1, 0), 99);
        due("96 and 2 is 98", x.person(2, 0), 98);
        due("98 and 2 is 99", x.person(0, 0), 99);
        x.season();
        due("99 stays 99", x.person(1, 0), 99);
        due("98 goes to 99", x.person(2, 0), 99);
        due("a dead one has none", x.person(3, 0), 0);
        sentence("16: STATE: no LIST");
        ClosedFeuds none = new ClosedFeuds();
        refused("season", none, none::season, STATE);
        due("no money more", none.person(0, 0), 9);
    }

    private static void seasonLoans() {
        sentence("16: all that is LENT goes back: how many SIDES go back");
        ClosedFeuds x = read("b011,b011,g011,g011,p011,p011,b011,b011");
        due("none", x.season(), 0);
        for (int feud = 0; feud < 8; feud++) {
            x.lend(feud, 0, 2);
            x.lend(feud, 1, 3);
        }
        due("lent", x.count(4), 16);
        due("all sixteen", x.season(), 16);
        due("none lent", x.count(4), 0);
        for (int feud = 0; feud < 8; feud++) {
            due("side 0", x.about(feud, 3), 0);
            due("side 1", x.about(feud, 4), 1);
            due("nobody lent", x.about(feud, 5), NONE);
        }
        due("none again", x.season(), 0);
    }
}
