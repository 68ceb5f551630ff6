import java.util.Map;
import java.util.TreeMap;

/** Each sentence on THE PAGE and THE LIST that names a boundary case: "Terms", promises 1 to 7. */
public final class ListEdgesTest extends ByHand {
    private static final String EIGHT = "011,122,233,344,455,506,027,138";
    private static final String EIGHT_LETTERED = "b011,j122,g233,p344,b455,j506,g027,p138";

    public static void main(String[] args) {
        peopleAtFirst();
        noListAtFirst();
        codesOfLetters();
        fullPage();
        emptyPage();
        lettersAtEachPlace();
        unlikeDigits();
        oneToEight();
        firstFault();
        pagesThatAreNoList();
        anotherListIsGone();
        refusedListChangesNothing();
        kindsAndWorths();
        aboutOpenStruckLent();
        aboutRefuses();
        takenAsKind();
        tally.end();
    }

    private static void peopleAtFirst() {
        sentence("PEOPLE are 0 to 5, each with MONEY (9 at first), an HEIR (none at first), alive at first");
        ClosedFeuds x = new ClosedFeuds();
        for (int one = 0; one <= 5; one++) {
            due("money of " + one, x.person(one, 0), 9);
            due("heir of " + one, x.person(one, 1), NONE);
            due("alive " + one, x.person(one, 2), 1);
            due("sides of " + one, x.person(one, 3), 0);
            due("harms by " + one, x.person(one, 4), 0);
            due("harms of " + one, x.person(one, 5), 0);
        }
        due("below 0", x.person(-1, 0), UNKNOWN);
        due("above 5", x.person(6, 0), UNKNOWN);
    }

    private static void noListAtFirst() {
        sentence("1: No LIST");
        ClosedFeuds x = new ClosedFeuds();
        int[] counts = {0, 0, 6, 0, 0, 0, 0, 0, 0};
        for (int what = 0; what <= 8; what++) {
            due("count " + what, x.count(what), counts[what]);
        }
        due("feud 0", x.about(0, 0), UNKNOWN);
        due("season", x.season(), STATE);
        due("image", x.image(), STATE);
        due("nobody may harm", x.mayHarm(0, 1), NONE);
    }

    private static void codesOfLetters() {
        sentence("2: OUTSIDE: code (1 to 126)");
        ClosedFeuds x = new ClosedFeuds();
        for (int code = 1; code <= 126; code++) {
            due("letter " + code, x.letter(code), 1);
            x.blank();
        }
        for (int code : new int[] {0, -1, 127, 128, 256 + '0', -256 + '0', 65536 + '0', LOW, HIGH}) {
            refused("letter " + code, x, () -> x.letter(code), OUTSIDE);
            due("letters behind " + code, x.count(7), 0);
        }
    }

    private static void fullPage() {
        sentence("2: how many THE PAGE has; FULL: above 40");
        ClosedFeuds x = new ClosedFeuds();
        for (int many = 1; many <= 40; many++) {
            due("letter " + many, x.letter('0' + many % 2), many);
        }
        refused("letter 41", x, () -> x.letter('0'), FULL);
        refused("letter 41 again", x, () -> x.letter(126), FULL);
        due("letters", x.count(7), 40);
        sentence("2: OUTSIDE is told ahead of FULL");
        refused("letter 41 of no code", x, () -> x.letter(0), OUTSIDE);
        refused("letter 41 of no code, above", x, () -> x.letter(127), OUTSIDE);
        sentence("3: THE PAGE is empty: how many letters it had");
        due("blank of a full page", x.blank(), 40);
        due("letters", x.count(7), 0);
        due("there is room again", x.letter('0'), 1);
    }

    private static void emptyPage() {
        sentence("3: how many letters it had, an empty page");
        ClosedFeuds x = read("013");
        due("behind list", x.blank(), 0);
        due("blank", x.blank(), 0);
        x.letter('x');
        due("one letter", x.blank(), 1);
        due("blank again", x.blank(), 0);
        due("THE LIST stands", x.count(0), 1);
        sentence("4: how many letters it has, an empty page");
        due("fault", x.fault(), 0);
        sentence("5: STATE: an empty page is no LIST");
        refused("list", x, x::list, STATE);
    }

    /** What is ahead, and all letters that a LIST may have behind it. */
    private static Map<String, String> lettersBehind() {
        Map<String, String> behind = new TreeMap<>();
        behind.put("", "bjgp012345");
        behind.put("b", "012345");
        behind.put("p", "012345");
        behind.put("0", "12345");
        behind.put("5", "01234");
        behind.put("j3", "01245");
        behind.put("01", "123456789");
        behind.put("g54", "123456789");
        behind.put("011", ",");
        behind.put("b019", ",");
        behind.put("011,", "bjgp012345");
        behind.put("011,p", "012345");
        behind.put("011,2", "01345");
        behind.put("011,g2", "01345");
        behind.put("011,01", "123456789");
        behind.put(EIGHT.substring(0, 27), ",");
        behind.put(EIGHT.substring(0, 28), "bjgp012345");
        behind.put(EIGHT, "");
        behind.put(EIGHT_LETTERED, "");
        return behind;
    }

    private static void lettersAtEachPlace() {
        sentence("4: the first letter that no LIST has there, behind those ahead of it");
        for (Map.Entry<String, String> entry : lettersBehind().entrySet()) {
            String ahead = entry.getKey();
            for (int code = 1; code <= 126; code++) {
                ClosedFeuds x = new ClosedFeuds();
                write(x, ahead);
                x.letter(code);
                boolean fits = entry.getValue().indexOf(code) >= 0;
                due("code " + code + " behind '" + ahead + "'", x.fault(), ahead.length() + (fits ? 1 : 0));
            }
        }
    }

    private static void unlikeDigits() {
        sentence("two unlike digits (0 to 5: who is on SIDE 0, on SIDE 1)");
        for (int one = 0; one <= 6; one++) {
            for (int other = 0; other <= 6; other++) {
                ClosedFeuds x = new ClosedFeuds();
                write(x, "g" + one + other + "7");
                boolean isList = one != other && one < 6 && other < 6;
                due("fault " + one + other, x.fault(), isList ? 4 : one > 5 ? 1 : 2);
                due("list " + one + other, x.list(), isList ? 1 : STATE);
                due("side 0 of " + one + other, x.about(0, 3), isList ? one : UNKNOWN);
                due("side 1 of " + one + other, x.about(0, 4), isList ? other : UNKNOWN);
            }
        }
    }

    private static void oneToEight() {
        sentence("one to eight FEUDS with \",\" between");
        for (String whole : new String[] {EIGHT, EIGHT_LETTERED}) {
            int feuds = 0;
            for (int end = 0; end <= whole.length(); end++) {
                String text = whole.substring(0, end);
                boolean isList = end > 0 && (end == whole.length() || whole.charAt(end) == ',');
                feuds += isList ? 1 : 0;
                ClosedFeuds x = new ClosedFeuds();
                write(x, text);
                due("fault of '" + text + "'", x.fault(), end);
                due("list of '" + text + "'", x.list(), isList ? feuds : STATE);
                due("letters behind '" + text + "'", x.count(7), isList ? 0 : end);
                due("feuds of '" + text + "'", x.count(0), isList ? feuds : 0);
            }
            due("feuds in all", feuds, 8);
        }
        sentence("eight FEUDS, and one more");
        for (String text : new String[] {EIGHT + ",", EIGHT + ",0", EIGHT + ",011", EIGHT + ",b011", EIGHT_LETTERED + ","}) {
            ClosedFeuds x = new ClosedFeuds();
            write(x, text);
            due("fault of '" + text + "'", x.fault(), text.startsWith("b") ? 39 : 31);
            refused("list of '" + text + "'", x, x::list, STATE);
        }
    }

    private static void firstFault() {
        sentence("4: the place (from 0) of the FIRST letter");
        ClosedFeuds x = new ClosedFeuds();
        write(x, "01x,y");
        due("of two", x.fault(), 2);
        write(x, "1,011");
        due("what stands behind changes nothing", x.fault(), 2);
        x.blank();
        write(x, "9");
        due("at place 0", x.fault(), 0);
        x.blank();
        write(x, EIGHT_LETTERED);
        due("39 letters without", x.fault(), 39);
        x.letter('1');
        due("at place 39, of 40", x.fault(), 39);
        long before = x.digest();
        x.fault();
        due("fault changes nothing", x.digest(), before);
    }

    private static void pagesThatAreNoList() {
        sentence("5: STATE: it is none");
        for (String text : new String[] {",", ",011", "011,", "011,,011", "011;122", "11", "011 ", " 011", "b", "bb011", "0b11",
            "01b1", "011b", "B011", "x011", "001", "551", "010", "061", "601", "0110", "011,220", "011,22", "011,b", "-011"}) {
            ClosedFeuds x = new ClosedFeuds();
            write(x, text);
            refused("list of '" + text + "'", x, x::list, STATE);
            due("lists read", x.count(8), 0);
        }
    }

    private static void anotherListIsGone() {
        sentence("5: another one is gone, with HARMS, REGISTERS; PEOPLE are as at first; THE PAGE is empty then");
        ClosedFeuds x = read("b012,b013,j014,b234,b235,b236,b237,b238");
        x.peace(0);
        x.buy(5, 2, 0);
        x.lend(3, 0, 4);
        x.lend(7, 1, 5);
        x.harm(0, 1);
        x.register(2, 4);
        x.heir(3, 0);
        x.death(0);
        x.season();
        x.lend(4, 0, 5);
        readAgain(x, "g457");
        int[] counts = {1, 0, 6, 0, 0, 0, 0, 0, 2};
        for (int what = 0; what <= 8; what++) {
            due("count " + what, x.count(what), counts[what]);
        }
        for (int one = 0; one <= 5; one++) {
            int[] first = {9, NONE, 1, one >= 4 ? 1 : 0, 0, 0};
            for (int what = 0; what <= 5; what++) {
                due("person " + one + ", " + what, x.person(one, what), first[what]);
            }
        }
        int[] about = {3, 7, 0, 4, 5, NONE, NONE, 14, 14};
        for (int what = 0; what <= 8; what++) {
            due("about 0, " + what, x.about(0, what), about[what]);
        }
        due("feud 1 is gone", x.about(1, 0), UNKNOWN);
        due("registers are gone", x.lapsed(0), 15);
        ClosedFeuds first = new ClosedFeuds();
        first.register(2, 4);
        readAgain(first, "011");
        due("REGISTERS from ahead of the first LIST are gone, too", first.count(6), 0);
        readAgain(x, EIGHT);
        for (int feud = 0; feud < 8; feud++) {
            due("side 0 of " + feud, x.about(feud, 3), EIGHT.charAt(4 * feud) - '0');
            due("side 1 of " + feud, x.about(feud, 4), EIGHT.charAt(4 * feud + 1) - '0');
            due("struck " + feud, x.about(feud, 2), 0);
        }
    }

    private static void refusedListChangesNothing() {
        sentence("5: a refused list changes nothing: THE LIST, THE PAGE, the IMAGE stay");
        ClosedFeuds x = read("b012,234");
        x.peace(1);
        x.image();
        x.harm(0, 1);
        x.register(2, 3);
        x.lend(0, 0, 5);
        write(x, "011,");
        refused("list", x, x::list, STATE);
        due("letters", x.count(7), 4);
        due("feuds", x.count(0), 2);
        due("lists read", x.count(8), 1);
        due("lent", x.about(0, 5), 0);
        due("restore", x.restore(), 1);
        write(x, "122");
        due("the page goes on", x.list(), 2);
    }

    private static void kindsAndWorths() {
        sentence("KINDS, told by the letter; the WORTH (1 to 9)");
        String[] letters = {"", "b", "j", "g", "p"};
        for (int kind = 0; kind <= 4; kind++) {
            for (int worth = 1; worth <= 9; worth++) {
                ClosedFeuds x = read("011," + letters[kind] + "23" + worth);
                due("kind", x.about(1, 0), kind);
                due("worth", x.about(1, 1), worth);
                due("kind of the one ahead", x.about(0, 0), 0);
            }
        }
    }

    private static void aboutOpenStruckLent() {
        sentence("6: NONE: OPEN, or it is STRUCK; who LENT (NONE); PRICE (NONE: it is STRUCK)");
        ClosedFeuds x = read("b015,b235,j454");
        x.lend(0, 0, 4);
        x.lend(0, 1, 3);
        int[] lent = {1, 5, 0, 4, 3, 0, 1, 5, 5};
        for (int what = 0; what <= 8; what++) {
            due("lent, " + what, x.about(0, what), lent[what]);
        }
        x.season();
        x.death(2);
        int[] open = {1, 5, 0, NONE, 3, NONE, NONE, 5, 3};
        for (int what = 0; what <= 8; what++) {
            due("open, " + what, x.about(1, what), open[what]);
        }
        x.death(3);
        int[] bothOpen = {1, 5, 0, NONE, NONE, NONE, NONE, 3, 3};
        for (int what = 0; what <= 8; what++) {
            due("both open, " + what, x.about(1, what), bothOpen[what]);
        }
        x.death(5);
        x.peace(2);
        int[] struck = {2, 4, 1, NONE, NONE, NONE, NONE, NONE, NONE};
        for (int what = 0; what <= 8; what++) {
            due("struck, " + what, x.about(2, what), struck[what]);
        }
    }

    private static void aboutRefuses() {
        sentence("6: UNKNOWN: FEUDS are numbered from 0; OUTSIDE: what (0 to 8)");
        ClosedFeuds one = read("011");
        due("the last of one", one.about(0, 1), 1);
        refused("one behind it", one, () -> one.about(1, 1), UNKNOWN);
        ClosedFeuds eight = read(EIGHT);
        due("the last of eight", eight.about(7, 1), 8);
        for (int feud : new int[] {-1, 8, 9, 16, LOW, HIGH}) {
            refused("feud " + feud, eight, () -> eight.about(feud, 0), UNKNOWN);
            refused("feud " + feud + " ahead of what", eight, () -> eight.about(feud, 9), UNKNOWN);
        }
        for (int what : new int[] {-1, 9, 10, LOW, HIGH}) {
            refused("what " + what, eight, () -> eight.about(7, what), OUTSIDE);
        }
        eight.peace(7);
        refused("what 9 of a struck one", eight, () -> eight.about(7, 9), OUTSIDE);
    }

    private static void takenAsKind() {
        sentence("7: its number; NONE: it is none such; all are FEUDS; a PIG is a GRUDGE, too");
        ClosedFeuds x = read("011,b011,j011,g011,p011,p019");
        String[] such = {"0", "01", "02", "03", "034", "034"};
        for (int feud = 0; feud < 6; feud++) {
            for (int kind = 0; kind <= 4; kind++) {
                boolean isSuch = such[feud].indexOf('0' + kind) >= 0;
                due("feud " + feud + " as " + kind, x.as(feud, kind), isSuch ? feud : NONE);
            }
        }
        sentence("7: UNKNOWN; OUTSIDE");
        for (int feud : new int[] {-1, 6, 8, LOW, HIGH}) {
            refused("feud " + feud, x, () -> x.as(feud, 0), UNKNOWN);
            refused("feud " + feud + " ahead of kind", x, () -> x.as(feud, 5), UNKNOWN);
        }
        for (int kind : new int[] {-1, 5, LOW, HIGH}) {
            refused("kind " + kind, x, () -> x.as(5, kind), OUTSIDE);
        }
        ClosedFeuds none = new ClosedFeuds();
        refused("no LIST", none, () -> none.as(0, 0), UNKNOWN);
        refused("no LIST, kind", none, () -> none.as(0, 5), UNKNOWN);
    }
}
