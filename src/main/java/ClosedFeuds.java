import java.util.Arrays;

/** Feuds on an isle where none may be begun: they are inherited, bought, lent, and struck off. */
public final class ClosedFeuds {
    public static final int NONE = -1, UNKNOWN = -101, OUTSIDE = -102, STATE = -103, FULL = -104;

    private static final int PEOPLE = 6;
    private static final int FEUD_ROOM = 8;
    private static final int SIDE_ROOM = 16;
    private static final int PAGE_ROOM = 40;
    private static final int HARM_ROOM = 12;
    private static final int REGISTER_ROOM = 8;
    private static final int FIRST_MONEY = 9;
    private static final int MOST_MONEY = 99;
    private static final int SEASON_MONEY = 2;
    private static final int SETS = 64;
    private static final int MOST_YEARS = 60;

    private static final int KIND_FEUD = 0;
    private static final int KIND_BOUNDARY = 1;
    private static final int KIND_JOKE = 2;
    private static final int KIND_GRUDGE = 3;
    private static final int KIND_PIG = 4;

    private final Page page;
    private final TheList theList;
    private final Isle isle;
    private final Isle kept;
    // What would be is tried out here, so that no call needs a new isle.
    private final Isle trial;
    private final Matchmaker matchmaker;
    private final Odds odds;
    private final Draws draws;
    private boolean imageStands;
    private int listsRead;

    public ClosedFeuds() {
        page = new Page();
        theList = new TheList();
        isle = new Isle(theList);
        kept = new Isle(theList);
        trial = new Isle(theList);
        matchmaker = new Matchmaker();
        odds = new Odds();
        draws = new Draws();
        imageStands = false;
        listsRead = 0;
    }

    // ---- the list

    public int letter(int code) {
        if (code < 1 || code > 126) {
            return OUTSIDE;
        }
        return page.write(code) ? page.length : FULL;
    }

    public int blank() {
        return page.wipe();
    }

    public int fault() {
        page.scan();
        return page.faultPlace;
    }

    public int list() {
        if (!page.isList()) {
            return STATE;
        }
        theList.readFrom(page);
        page.wipe();
        isle.begin();
        imageStands = false;
        listsRead++;
        return theList.size;
    }

    public int about(int feud, int what) {
        if (!isFeud(feud)) {
            return UNKNOWN;
        }
        switch (what) {
            case 0: return theList.feuds[feud].kind();
            case 1: return theList.feuds[feud].worth;
            case 2: return isle.struck[feud] ? 1 : 0;
            case 3: return isle.onSide(feud, 0);
            case 4: return isle.onSide(feud, 1);
            case 5: return isle.lenderOf(feud, 0);
            case 6: return isle.lenderOf(feud, 1);
            case 7: return isle.toldPrice(feud, 0);
            case 8: return isle.toldPrice(feud, 1);
            default: return OUTSIDE;
        }
    }

    public int as(int feud, int kind) {
        if (!isFeud(feud)) {
            return UNKNOWN;
        }
        if (kind < KIND_FEUD || kind > KIND_PIG) {
            return OUTSIDE;
        }
        return isOfKind(theList.feuds[feud], kind) ? feud : NONE;
    }

    // ---- people

    public int person(int person, int what) {
        if (!isPerson(person)) {
            return UNKNOWN;
        }
        switch (what) {
            case 0: return isle.money[person];
            case 1: return isle.heir[person];
            case 2: return isle.alive[person] ? 1 : 0;
            case 3: return Integer.bitCount(isle.sidesOf(person));
            case 4: return times(isle.harmers, isle.harms, person);
            case 5: return times(isle.harmed, isle.harms, person);
            default: return OUTSIDE;
        }
    }

    public int heir(int person, int heir) {
        if (!isPerson(person) || (heir != NONE && !isPerson(heir)) || person == heir) {
            return UNKNOWN;
        }
        if (!hasList() || !isle.alive[person]) {
            return STATE;
        }
        int before = isle.heir[person];
        isle.heir[person] = heir;
        return before;
    }

    public int buy(int person, int feud, int side) {
        if (!isPerson(person) || !isFeud(feud)) {
            return UNKNOWN;
        }
        if (!isBit(side)) {
            return OUTSIDE;
        }
        return isle.canBuy(person, feud, side) ? isle.sellTo(person, feud, side) : STATE;
    }

    public int lend(int feud, int side, int person) {
        if (!isFeud(feud) || !isPerson(person)) {
            return UNKNOWN;
        }
        if (!isBit(side)) {
            return OUTSIDE;
        }
        if (!isle.canLend(feud, side, person)) {
            return STATE;
        }
        isle.lentTo[2 * feud + side] = person;
        return isle.lenderOf(feud, side);
    }

    public int peace(int feud) {
        if (!isFeud(feud)) {
            return UNKNOWN;
        }
        if (!isle.canStrike(feud)) {
            return STATE;
        }
        isle.strike(feud);
        return isle.struckFeuds();
    }

    public int death(int person) {
        if (!isPerson(person)) {
            return UNKNOWN;
        }
        return hasList() && isle.alive[person] ? isle.die(person) : STATE;
    }

    public int mayHarm(int a, int b) {
        return areTwo(a, b) ? isle.feudBetween(a, b) : UNKNOWN;
    }

    public int harm(int a, int b) {
        if (!areTwo(a, b)) {
            return UNKNOWN;
        }
        int feud = isle.feudBetween(a, b);
        if (feud == NONE) {
            return STATE;
        }
        return isle.keepHarm(a, b) ? feud : FULL;
    }

    public int season() {
        return hasList() ? isle.endSeason() : STATE;
    }

    // ---- what would be

    public int comeBy(int a, int b, int what) {
        if (!areTwo(a, b)) {
            return UNKNOWN;
        }
        if (!isBit(what)) {
            return OUTSIDE;
        }
        if (!hasList() || !isle.alive[a] || !isle.alive[b]) {
            return STATE;
        }
        int cheapest = NONE;
        int least = NONE;
        for (int feud = 0; feud < theList.size; feud++) {
            int cost = cheaper(costOfFeud(feud, a, b), costOfFeud(feud, b, a));
            if (cost != NONE && (least == NONE || cost < least)) {
                least = cost;
                cheapest = feud;
            }
        }
        return what == 0 ? least : cheapest;
    }

    public int marry(int what) {
        if (!isBit(what)) {
            return OUTSIDE;
        }
        if (!hasList()) {
            return STATE;
        }
        matchmaker.pairUp(isle);
        return what == 0 ? matchmaker.mostStruck : matchmaker.fewestPairs;
    }

    public int wills(int set, int person) {
        if (!isPerson(person)) {
            return UNKNOWN;
        }
        if (set < 0 || set >= SETS) {
            return OUTSIDE;
        }
        if (!hasList()) {
            return STATE;
        }
        trial.copyFrom(isle);
        for (int one = 0; one < PEOPLE; one++) {
            if ((set >> one & 1) == 1 && trial.alive[one]) {
                trial.die(one);
            }
        }
        return trial.sidesOf(person);
    }

    public long left(int years, int many, int part) {
        if (years < 1 || years > 2 || many < 0 || many > FEUD_ROOM || !isBit(part)) {
            return OUTSIDE;
        }
        if (!hasList()) {
            return STATE;
        }
        odds.reckon(isle, years);
        return part == 0 ? odds.above(many) : odds.below(many);
    }

    // ---- registers

    public int register(int a, int b) {
        if (!areTwo(a, b)) {
            return UNKNOWN;
        }
        return isle.keepRegister(a, b) ? isle.registers : FULL;
    }

    public int forget() {
        int before = isle.registers;
        isle.registers = 0;
        return before;
    }

    public int lapsed(int what) {
        if (!isBit(what)) {
            return OUTSIDE;
        }
        if (!hasList()) {
            return STATE;
        }
        int fits = 0;
        int fitting = NONE;
        for (int lesser = 0; lesser < PEOPLE; lesser++) {
            for (int greater = lesser + 1; greater < PEOPLE; greater++) {
                if (isle.registersFit(lesser, greater)) {
                    fits++;
                    fitting = PEOPLE * lesser + greater;
                }
            }
        }
        if (what == 0) {
            return fits;
        }
        return fits == 1 ? fitting : NONE;
    }

    public int years(int years, int seed, int what) {
        if (years < 1 || years > MOST_YEARS || seed < 0 || what < 0 || what > 3) {
            return OUTSIDE;
        }
        if (!hasList()) {
            return STATE;
        }
        trial.copyFrom(isle);
        draws.seed = seed;
        for (int year = 0; year < years; year++) {
            liveYear();
        }
        switch (what) {
            case 0: return trial.peopleAlive();
            case 1: return trial.moneyOfAll();
            case 2: return trial.openSides();
            default: return draws.seed;
        }
    }

    // ---- what is told of all

    public int image() {
        if (!hasList()) {
            return STATE;
        }
        kept.copyFrom(isle);
        imageStands = true;
        return theList.size - isle.struckFeuds();
    }

    public int restore() {
        if (!imageStands) {
            return STATE;
        }
        isle.copyFrom(kept);
        return theList.size - isle.struckFeuds();
    }

    public int count(int what) {
        switch (what) {
            case 0: return theList.size;
            case 1: return isle.struckFeuds();
            case 2: return isle.peopleAlive();
            case 3: return isle.openSides();
            case 4: return isle.lentSides();
            case 5: return isle.harms;
            case 6: return isle.registers;
            case 7: return page.length;
            case 8: return listsRead;
            default: return OUTSIDE;
        }
    }

    public long digest() {
        long hash = foldFeuds(751L);
        hash = foldPeople(hash);
        hash = foldHarming(hash);
        if (hasList()) {
            hash = fold(hash, marry(0));
            hash = fold(hash, marry(1));
            hash = fold(hash, lapsed(0));
            hash = fold(hash, lapsed(1));
        }
        for (int place = 0; place < page.length; place++) {
            hash = fold(hash, page.codeAt(place));
        }
        for (int what = 0; what <= 8; what++) {
            hash = fold(hash, count(what));
        }
        return hash;
    }

    private static long fold(long hash, long number) {
        return 31L * hash + number;
    }

    private long foldFeuds(long hash) {
        long folded = hash;
        for (int feud = 0; feud < theList.size; feud++) {
            for (int what = 0; what <= 8; what++) {
                folded = fold(folded, about(feud, what));
            }
        }
        return folded;
    }

    private long foldPeople(long hash) {
        long folded = hash;
        for (int one = 0; one < PEOPLE; one++) {
            for (int what = 0; what <= 5; what++) {
                folded = fold(folded, person(one, what));
            }
        }
        return folded;
    }

    private long foldHarming(long hash) {
        long folded = hash;
        for (int a = 0; a < PEOPLE; a++) {
            for (int b = 0; b < PEOPLE; b++) {
                if (a != b) {
                    folded = fold(folded, mayHarm(a, b));
                }
            }
        }
        return folded;
    }

    private boolean hasList() {
        return theList.size > 0;
    }

    private boolean isFeud(int number) {
        return number >= 0 && number < theList.size;
    }

    private static boolean isPerson(int number) {
        return number >= 0 && number < PEOPLE;
    }

    private static boolean areTwo(int a, int b) {
        return isPerson(a) && isPerson(b) && a != b;
    }

    private static boolean isBit(int number) {
        return number == 0 || number == 1;
    }

    private static boolean isOfKind(Feud feud, int kind) {
        switch (kind) {
            case KIND_FEUD: return true;
            case KIND_BOUNDARY: return feud instanceof Boundary;
            case KIND_JOKE: return feud instanceof Joke;
            case KIND_GRUDGE: return feud instanceof Grudge;
            case KIND_PIG: return feud instanceof Pig;
            default: return false;
        }
    }

    private static int times(int[] row, int length, int number) {
        int found = 0;
        for (int i = 0; i < length && i < row.length; i++) {
            if (row[i] == number) {
                found++;
            }
        }
        return found;
    }

    private static int cheaper(int one, int other) {
        if (one == NONE) {
            return other;
        }
        return other == NONE ? one : Math.min(one, other);
    }

    /** What it costs that one gets on SIDE 0 and then another one on SIDE 1; NONE: they can't. */
    private int costOfFeud(int feud, int onSide0, int onSide1) {
        trial.copyFrom(isle);
        int first = trial.getOn(onSide0, feud, 0);
        if (first == NONE) {
            return NONE;
        }
        int second = trial.getOn(onSide1, feud, 1);
        return second == NONE ? NONE : first + second;
    }

    private void liveYear() {
        int buyer = draws.below(PEOPLE);
        int feud = draws.below(theList.size);
        int side = draws.below(2);
        if (trial.canBuy(buyer, feud, side)) {
            trial.sellTo(buyer, feud, side);
        }
        int ill = draws.below(PEOPLE);
        if (trial.alive[ill] && draws.below(4) == 0) {
            trial.die(ill);
        }
        trial.endSeason();
    }

    /** THE PAGE: letters that wait to be read as THE LIST. */
    private static final class Page {
        private static final int AT_START = 0;
        private static final int BEHIND_KIND = 1;
        private static final int BEHIND_SIDE_0 = 2;
        private static final int BEHIND_SIDE_1 = 3;
        private static final int BEHIND_WORTH = 4;

        final int[] codes = new int[PAGE_ROOM];
        int length = 0;
        int faultPlace = 0;
        int stageAtEnd = AT_START;

        boolean write(int code) {
            if (length >= codes.length) {
                return false;
            }
            codes[length] = code;
            length++;
            return true;
        }

        int wipe() {
            int before = length;
            length = 0;
            return before;
        }

        int codeAt(int place) {
            return place >= 0 && place < length ? codes[place] : 0;
        }

        boolean isList() {
            scan();
            return faultPlace == length && stageAtEnd == BEHIND_WORTH;
        }

        void scan() {
            int stage = AT_START;
            int feuds = 0;
            int place = 0;
            while (place < length) {
                int next = stageBehind(stage, place, feuds);
                if (next == NONE) {
                    break;
                }
                if (next == BEHIND_WORTH) {
                    feuds++;
                }
                stage = next;
                place++;
            }
            faultPlace = place;
            stageAtEnd = stage;
        }

        /** The stage behind the letter at a place; NONE: no LIST has that letter there. */
        private int stageBehind(int stage, int place, int feuds) {
            int code = codeAt(place);
            switch (stage) {
                case AT_START:
                    if (TheList.kindOfLetter(code) != KIND_FEUD) {
                        return BEHIND_KIND;
                    }
                    return namesPerson(code) ? BEHIND_SIDE_0 : NONE;
                case BEHIND_KIND:
                    return namesPerson(code) ? BEHIND_SIDE_0 : NONE;
                case BEHIND_SIDE_0:
                    return namesPerson(code) && code != codeAt(place - 1) ? BEHIND_SIDE_1 : NONE;
                case BEHIND_SIDE_1:
                    return code >= '1' && code <= '9' ? BEHIND_WORTH : NONE;
                default:
                    return code == ',' && feuds < FEUD_ROOM ? AT_START : NONE;
            }
        }

        private static boolean namesPerson(int code) {
            return code >= '0' && code <= '5';
        }
    }

    /** THE LIST as it was read: what never changes of its FEUDS. */
    private static final class TheList {
        final Feud[] feuds = new Feud[FEUD_ROOM];
        final int[] firstOwners = new int[SIDE_ROOM];
        int size = 0;

        // No row is ever null, so that a FEUD needs no look before it is asked.
        TheList() {
            for (int feud = 0; feud < FEUD_ROOM; feud++) {
                feuds[feud] = new Feud(1);
            }
        }

        void readFrom(Page page) {
            int place = 0;
            size = 0;
            while (size < FEUD_ROOM && place < page.length) {
                int kind = kindOfLetter(page.codeAt(place));
                if (kind != KIND_FEUD) {
                    place++;
                }
                firstOwners[2 * size] = page.codeAt(place) - '0';
                firstOwners[2 * size + 1] = page.codeAt(place + 1) - '0';
                feuds[size] = feudOf(kind, page.codeAt(place + 2) - '0');
                size++;
                place += 4;
            }
        }

        static int kindOfLetter(int code) {
            switch (code) {
                case 'b': return KIND_BOUNDARY;
                case 'j': return KIND_JOKE;
                case 'g': return KIND_GRUDGE;
                case 'p': return KIND_PIG;
                default: return KIND_FEUD;
            }
        }

        private static Feud feudOf(int kind, int worth) {
            switch (kind) {
                case KIND_BOUNDARY: return new Boundary(worth);
                case KIND_JOKE: return new Joke(worth);
                case KIND_GRUDGE: return new Grudge(worth);
                case KIND_PIG: return new Pig(worth);
                default: return new Feud(worth);
            }
        }
    }

    private static class Feud {
        final int worth;

        Feud(int worth) {
            this.worth = worth;
        }

        int kind() {
            return KIND_FEUD;
        }

        int fullPrice() {
            return worth;
        }

        boolean isLendable() {
            return false;
        }

        int mostOpenAtPeace() {
            return 0;
        }
    }

    private static final class Boundary extends Feud {
        Boundary(int worth) {
            super(worth);
        }

        int kind() {
            return KIND_BOUNDARY;
        }

        boolean isLendable() {
            return true;
        }
    }

    private static final class Joke extends Feud {
        Joke(int worth) {
            super(worth);
        }

        int kind() {
            return KIND_JOKE;
        }

        int fullPrice() {
            return 1;
        }

        int mostOpenAtPeace() {
            return 1;
        }
    }

    private static class Grudge extends Feud {
        Grudge(int worth) {
            super(worth);
        }

        int kind() {
            return KIND_GRUDGE;
        }

        int fullPrice() {
            return 2 * worth;
        }

        boolean isLendable() {
            return true;
        }
    }

    private static final class Pig extends Grudge {
        Pig(int worth) {
            super(worth);
        }

        int kind() {
            return KIND_PIG;
        }

        int fullPrice() {
            return super.fullPrice() + 3;
        }
    }

    /** All that an IMAGE keeps. SIDE s of FEUD k stands at 2 k + s of the rows of SIDES. */
    private static final class Isle {
        final TheList theList;
        final int[] money = new int[PEOPLE];
        final int[] heir = new int[PEOPLE];
        final boolean[] alive = new boolean[PEOPLE];
        final int[] owner = new int[SIDE_ROOM];
        final int[] lentTo = new int[SIDE_ROOM];
        final boolean[] struck = new boolean[FEUD_ROOM];
        final int[] harmers = new int[HARM_ROOM];
        final int[] harmed = new int[HARM_ROOM];
        int harms = 0;
        final int[] registerers = new int[REGISTER_ROOM];
        final int[] registered = new int[REGISTER_ROOM];
        int registers = 0;

        Isle(TheList theList) {
            this.theList = theList;
            begin();
        }

        void begin() {
            for (int one = 0; one < PEOPLE; one++) {
                money[one] = FIRST_MONEY;
                heir[one] = NONE;
                alive[one] = true;
            }
            for (int feud = 0; feud < FEUD_ROOM; feud++) {
                struck[feud] = false;
            }
            for (int at = 0; at < SIDE_ROOM; at++) {
                owner[at] = at < 2 * theList.size ? theList.firstOwners[at] : NONE;
                lentTo[at] = NONE;
            }
            harms = 0;
            registers = 0;
        }

        void copyFrom(Isle other) {
            for (int one = 0; one < PEOPLE; one++) {
                alive[one] = other.alive[one];
            }
            for (int feud = 0; feud < FEUD_ROOM; feud++) {
                struck[feud] = other.struck[feud];
            }
            System.arraycopy(other.money, 0, money, 0, PEOPLE);
            System.arraycopy(other.heir, 0, heir, 0, PEOPLE);
            System.arraycopy(other.owner, 0, owner, 0, SIDE_ROOM);
            System.arraycopy(other.lentTo, 0, lentTo, 0, SIDE_ROOM);
            System.arraycopy(other.harmers, 0, harmers, 0, HARM_ROOM);
            System.arraycopy(other.harmed, 0, harmed, 0, HARM_ROOM);
            harms = other.harms;
            System.arraycopy(other.registerers, 0, registerers, 0, REGISTER_ROOM);
            System.arraycopy(other.registered, 0, registered, 0, REGISTER_ROOM);
            registers = other.registers;
        }

        int onSide(int feud, int side) {
            int at = 2 * feud + side;
            return lentTo[at] != NONE ? lentTo[at] : owner[at];
        }

        int lenderOf(int feud, int side) {
            int at = 2 * feud + side;
            return lentTo[at] != NONE ? owner[at] : NONE;
        }

        boolean isOpen(int feud, int side) {
            return !struck[feud] && owner[2 * feud + side] == NONE;
        }

        boolean isLent(int feud, int side) {
            return lentTo[2 * feud + side] != NONE;
        }

        boolean hasToDoWithSide(int person, int feud, int side) {
            int at = 2 * feud + side;
            return owner[at] == person || lentTo[at] == person;
        }

        boolean hasToDo(int person, int feud) {
            return hasToDoWithSide(person, feud, 0) || hasToDoWithSide(person, feud, 1);
        }

        int priceOf(int feud, int side) {
            int full = theList.feuds[feud].fullPrice();
            return isOpen(feud, 1 - side) ? (full + 1) / 2 : full;
        }

        int toldPrice(int feud, int side) {
            return struck[feud] ? NONE : priceOf(feud, side);
        }

        boolean canBuy(int person, int feud, int side) {
            return !struck[feud] && !isLent(feud, side) && alive[person]
                    && !hasToDo(person, feud) && money[person] >= priceOf(feud, side);
        }

        int sellTo(int person, int feud, int side) {
            int at = 2 * feud + side;
            int price = priceOf(feud, side);
            money[person] -= price;
            if (owner[at] != NONE) {
                pay(owner[at], price);
            }
            owner[at] = person;
            return price;
        }

        void pay(int person, int sum) {
            money[person] = Math.min(MOST_MONEY, money[person] + sum);
        }

        /** What one pays to be on a SIDE; NONE: he can't be. */
        int getOn(int person, int feud, int side) {
            if (onSide(feud, side) == person) {
                return 0;
            }
            return canBuy(person, feud, side) ? sellTo(person, feud, side) : NONE;
        }

        boolean canLend(int feud, int side, int person) {
            return !struck[feud] && !isOpen(feud, side) && !isLent(feud, side)
                    && theList.feuds[feud].isLendable() && alive[person] && !hasToDo(person, feud);
        }

        boolean canStrike(int feud) {
            int open = (isOpen(feud, 0) ? 1 : 0) + (isOpen(feud, 1) ? 1 : 0);
            return !struck[feud] && !isLent(feud, 0) && !isLent(feud, 1)
                    && open <= theList.feuds[feud].mostOpenAtPeace();
        }

        void strike(int feud) {
            struck[feud] = true;
            owner[2 * feud] = NONE;
            owner[2 * feud + 1] = NONE;
        }

        /** DEATH: how many SIDES go to somebody. */
        int die(int person) {
            alive[person] = false;
            endLoansOf(person);
            int next = inheritorOf(person);
            int passed = 0;
            for (int feud = 0; feud < theList.size; feud++) {
                for (int side = 0; side < 2; side++) {
                    if (owner[2 * feud + side] == person) {
                        boolean passes = next != NONE && !hasToDoWithSide(next, feud, 1 - side);
                        owner[2 * feud + side] = passes ? next : NONE;
                        passed += passes ? 1 : 0;
                    }
                }
            }
            if (next != NONE) {
                pay(next, money[person]);
            }
            money[person] = 0;
            return passed;
        }

        private void endLoansOf(int person) {
            for (int at = 0; at < SIDE_ROOM; at++) {
                if (lentTo[at] == person || owner[at] == person) {
                    lentTo[at] = NONE;
                }
            }
        }

        /** The first one alive along the HEIRS of one; NONE: there is none, or it comes round. */
        private int inheritorOf(int person) {
            int asked = 1 << person;
            int next = heir[person];
            for (int step = 0; step < PEOPLE; step++) {
                if (next == NONE || (asked >> next & 1) == 1) {
                    return NONE;
                }
                if (alive[next]) {
                    return next;
                }
                asked |= 1 << next;
                next = heir[next];
            }
            return NONE;
        }

        boolean areOnBothSides(int feud, int a, int b) {
            int on0 = onSide(feud, 0);
            int on1 = onSide(feud, 1);
            return (on0 == a && on1 == b) || (on0 == b && on1 == a);
        }

        int feudBetween(int a, int b) {
            int best = NONE;
            if (!alive[a] || !alive[b]) {
                return NONE;
            }
            for (int feud = 0; feud < theList.size; feud++) {
                if (areOnBothSides(feud, a, b)
                        && (best == NONE || theList.feuds[feud].worth > theList.feuds[best].worth)) {
                    best = feud;
                }
            }
            return best;
        }

        int feudsShared(int a, int b) {
            int shared = 0;
            for (int feud = 0; feud < theList.size; feud++) {
                if (areOnBothSides(feud, a, b)) {
                    shared++;
                }
            }
            return shared;
        }

        boolean keepHarm(int a, int b) {
            if (harms >= HARM_ROOM) {
                return false;
            }
            harmers[harms] = a;
            harmed[harms] = b;
            harms++;
            return true;
        }

        boolean keepRegister(int a, int b) {
            if (registers >= REGISTER_ROOM) {
                return false;
            }
            registerers[registers] = a;
            registered[registers] = b;
            registers++;
            return true;
        }

        /** Whether a LAPSED FEUD of these two, with those not STRUCK, explains all REGISTERS. */
        boolean registersFit(int a, int b) {
            for (int at = 0; at < registers; at++) {
                int one = registerers[at];
                int other = registered[at];
                boolean theseTwo = (one == a && other == b) || (one == b && other == a);
                if (!theseTwo && feudsShared(one, other) == 0) {
                    return false;
                }
            }
            return true;
        }

        /** The SEASON ends: how many SIDES go back. */
        int endSeason() {
            int back = lentSides();
            for (int at = 0; at < SIDE_ROOM; at++) {
                lentTo[at] = NONE;
            }
            for (int one = 0; one < PEOPLE; one++) {
                if (alive[one]) {
                    pay(one, SEASON_MONEY);
                }
            }
            return back;
        }

        /** The SIDES that one is on, as bits 2 k + s. */
        int sidesOf(int person) {
            int sides = 0;
            for (int feud = 0; feud < theList.size; feud++) {
                for (int side = 0; side < 2; side++) {
                    if (onSide(feud, side) == person) {
                        sides |= 1 << (2 * feud + side);
                    }
                }
            }
            return sides;
        }

        int struckFeuds() {
            int found = 0;
            for (int feud = 0; feud < theList.size; feud++) {
                found += struck[feud] ? 1 : 0;
            }
            return found;
        }

        int peopleAlive() {
            int found = 0;
            for (int one = 0; one < PEOPLE; one++) {
                found += alive[one] ? 1 : 0;
            }
            return found;
        }

        int moneyOfAll() {
            int sum = 0;
            for (int one = 0; one < PEOPLE; one++) {
                sum += money[one];
            }
            return sum;
        }

        int openSides() {
            int found = 0;
            for (int feud = 0; feud < theList.size; feud++) {
                found += isOpen(feud, 0) ? 1 : 0;
                found += isOpen(feud, 1) ? 1 : 0;
            }
            return found;
        }

        int lentSides() {
            return SIDE_ROOM - times(lentTo, SIDE_ROOM, NONE);
        }
    }

    /** MARRIAGES: the best pairs of each set of PEOPLE, from those of lesser sets. */
    private static final class Matchmaker {
        // A FEUD STRUCK outweighs all pairs there can be, so that one number tells both aims.
        private static final int PER_FEUD = 4;

        final int[] best = new int[SETS];
        final int[] gains = new int[PEOPLE * PEOPLE];
        int mostStruck = 0;
        int fewestPairs = 0;

        void pairUp(Isle isle) {
            reckonGains(isle);
            best[0] = 0;
            for (int set = 1; set < SETS; set++) {
                best[set] = bestOf(set);
            }
            int whole = best[SETS - 1];
            mostStruck = (whole + PER_FEUD - 1) / PER_FEUD;
            fewestPairs = PER_FEUD * mostStruck - whole;
        }

        private void reckonGains(Isle isle) {
            for (int a = 0; a < PEOPLE; a++) {
                for (int b = 0; b < PEOPLE; b++) {
                    boolean canPair = a != b && isle.alive[a] && isle.alive[b];
                    gains[PEOPLE * a + b] = canPair ? PER_FEUD * isle.feudsShared(a, b) - 1 : -1;
                }
            }
        }

        private int bestOf(int set) {
            int one = leastOf(set);
            int others = set & ~(1 << one);
            int most = best[others];
            for (int other = one + 1; other < PEOPLE; other++) {
                if ((others >> other & 1) == 1) {
                    int with = best[others & ~(1 << other)] + gains[PEOPLE * one + other];
                    most = Math.max(most, with);
                }
            }
            return most;
        }

        private static int leastOf(int set) {
            for (int one = 0; one < PEOPLE; one++) {
                if ((set >> one & 1) == 1) {
                    return one;
                }
            }
            return 0;
        }
    }

    /** LEFT: of 10 to the (YEARS times FEUDS) ways, in how many so many FEUDS are left. */
    private static final class Odds {
        final long[] ways = new long[FEUD_ROOM + 1];
        long all = 1L;

        // With 8 FEUDS and 2 YEARS there are 10 to the 16 ways: a long holds them.
        void reckon(Isle isle, int years) {
            Arrays.fill(ways, 0L);
            ways[0] = 1L;
            all = 1L;
            for (int feud = 0; feud < isle.theList.size; feud++) {
                if (!isle.struck[feud]) {
                    long worth = isle.theList.feuds[feud].worth;
                    long stays = years == 2 ? worth * worth : worth;
                    long both = years == 2 ? 100L : 10L;
                    addFeud(stays, both - stays);
                    all *= both;
                }
            }
        }

        private void addFeud(long stays, long goes) {
            for (int many = FEUD_ROOM; many > 0; many--) {
                ways[many] = ways[many] * goes + ways[many - 1] * stays;
            }
            ways[0] *= goes;
        }

        long above(int many) {
            return inLowest(waysOf(many), waysOf(many));
        }

        long below(int many) {
            return inLowest(all, waysOf(many));
        }

        private long waysOf(int many) {
            return many >= 0 && many < ways.length ? ways[many] : 0L;
        }

        private long inLowest(long number, long above) {
            long common = commonDivisor(above, all);
            return common == 0L ? number : number / common;
        }

        private static long commonDivisor(long one, long other) {
            long a = one;
            long b = other;
            for (int step = 0; step < 200 && b != 0L; step++) {
                long rest = a % b;
                a = b;
                b = rest;
            }
            return a;
        }
    }

    /** DRAWS by a SEED. */
    private static final class Draws {
        int seed = 0;

        int below(int bound) {
            seed = (int) ((1103515245L * seed + 12345L) & 0x7fffffffL);
            return bound <= 0 ? 0 : seed / 65536 % bound;
        }
    }
}
