import java.math.BigInteger;
import java.util.ArrayList;
import java.util.HashSet;
import java.util.List;
import java.util.Set;
import java.util.regex.Matcher;
import java.util.regex.Pattern;

/** The document a second time, slow and with the library, to hold the class against. */
final class PlainModel {
    private static final int NONE = -1, UNKNOWN = -101, OUTSIDE = -102, STATE = -103, FULL = -104;
    private static final String ONE_FEUD =
            "([bjgp]?)(0[1-5]|1[02-5]|2[013-5]|3[0-245]|4[0-35]|5[0-4])([1-9])";
    private static final String ONE_FEUD_PLAIN = ONE_FEUD.replace("(", "(?:");
    private static final Pattern LIST =
            Pattern.compile(ONE_FEUD_PLAIN + "(?:," + ONE_FEUD_PLAIN + "){0,7}");

    private static final class Side {
        Integer whose;
        Integer lentTo;

        Integer on() {
            return lentTo != null ? lentTo : whose;
        }

        boolean concerns(int person) {
            return Integer.valueOf(person).equals(whose) || Integer.valueOf(person).equals(lentTo);
        }

        Side copy() {
            Side side = new Side();
            side.whose = whose;
            side.lentTo = lentTo;
            return side;
        }
    }

    private static final class Quarrel {
        char kind = ' ';
        int worth;
        boolean struck;
        Side[] sides = {new Side(), new Side()};

        Quarrel copy() {
            Quarrel quarrel = new Quarrel();
            quarrel.kind = kind;
            quarrel.worth = worth;
            quarrel.struck = struck;
            quarrel.sides = new Side[] {sides[0].copy(), sides[1].copy()};
            return quarrel;
        }

        int price(int side) {
            int price = switch (kind) {
                case 'g' -> 2 * worth;
                case 'p' -> 2 * worth + 3;
                case 'j' -> 1;
                default -> worth;
            };
            return sides[1 - side].whose == null ? price / 2 + price % 2 : price;
        }

        boolean concerns(int person) {
            return sides[0].concerns(person) || sides[1].concerns(person);
        }

        boolean isBetween(int a, int b) {
            if (struck || sides[0].on() == null || sides[1].on() == null) {
                return false;
            }
            return Set.of(a, b).equals(new HashSet<>(List.of(sides[0].on(), sides[1].on())));
        }
    }

    private static final class Human {
        int money = 9;
        Integer heir;
        boolean alive = true;

        Human copy() {
            Human human = new Human();
            human.money = money;
            human.heir = heir;
            human.alive = alive;
            return human;
        }
    }

    private static final class World {
        List<Quarrel> quarrels = new ArrayList<>();
        List<Human> humans = new ArrayList<>();
        List<int[]> harms = new ArrayList<>();
        List<int[]> registers = new ArrayList<>();

        World() {
            for (int i = 0; i < 6; i++) {
                humans.add(new Human());
            }
        }

        World copy() {
            World world = new World();
            world.humans.clear();
            humans.forEach(human -> world.humans.add(human.copy()));
            quarrels.forEach(quarrel -> world.quarrels.add(quarrel.copy()));
            world.harms.addAll(harms);
            world.registers.addAll(registers);
            return world;
        }

        Integer purchase(int person, int feud, int side) {
            Quarrel quarrel = quarrels.get(feud);
            Human buyer = humans.get(person);
            if (quarrel.struck || quarrel.sides[side].lentTo != null || !buyer.alive || quarrel.concerns(person)) {
                return null;
            }
            int price = quarrel.price(side);
            if (buyer.money < price) {
                return null;
            }
            buyer.money -= price;
            if (quarrel.sides[side].whose != null) {
                Human seller = humans.get(quarrel.sides[side].whose);
                seller.money = Math.min(99, seller.money + price);
            }
            quarrel.sides[side].whose = person;
            return price;
        }

        Integer takerOf(int person) {
            Set<Integer> asked = new HashSet<>(Set.of(person));
            Integer next = humans.get(person).heir;
            while (next != null && asked.add(next)) {
                if (humans.get(next).alive) {
                    return next;
                }
                next = humans.get(next).heir;
            }
            return null;
        }

        int decease(int person) {
            Human dead = humans.get(person);
            dead.alive = false;
            Integer taker = takerOf(person);
            int gone = 0;
            for (Quarrel quarrel : quarrels) {
                for (Side side : quarrel.sides) {
                    if (side.concerns(person)) {
                        side.lentTo = null;
                    }
                }
                for (int s = 0; s < 2; s++) {
                    Side side = quarrel.sides[s];
                    if (Integer.valueOf(person).equals(side.whose)) {
                        side.whose = null;
                        if (taker != null && !quarrel.sides[1 - s].concerns(taker)) {
                            side.whose = taker;
                            gone++;
                        }
                    }
                }
            }
            if (taker != null) {
                humans.get(taker).money = Math.min(99, humans.get(taker).money + dead.money);
            }
            dead.money = 0;
            return gone;
        }

        int turnSeason() {
            int back = 0;
            for (Quarrel quarrel : quarrels) {
                for (Side side : quarrel.sides) {
                    back += side.lentTo != null ? 1 : 0;
                    side.lentTo = null;
                }
            }
            for (Human human : humans) {
                if (human.alive) {
                    human.money = Math.min(99, human.money + 2);
                }
            }
            return back;
        }

        int struck() {
            return (int) quarrels.stream().filter(quarrel -> quarrel.struck).count();
        }

        int alive() {
            return (int) humans.stream().filter(human -> human.alive).count();
        }

        int open() {
            int open = 0;
            for (Quarrel quarrel : quarrels) {
                for (Side side : quarrel.sides) {
                    open += !quarrel.struck && side.whose == null ? 1 : 0;
                }
            }
            return open;
        }

        int lent() {
            int lent = 0;
            for (Quarrel quarrel : quarrels) {
                for (Side side : quarrel.sides) {
                    lent += side.lentTo != null ? 1 : 0;
                }
            }
            return lent;
        }

        boolean anyBetween(int a, int b) {
            return quarrels.stream().anyMatch(quarrel -> quarrel.isBetween(a, b));
        }
    }

    private World world = new World();
    private World kept;
    private String page = "";
    private int reads;

    private static int told(Integer number) {
        return number == null ? NONE : number;
    }

    private static boolean person(int number) {
        return number >= 0 && number < 6;
    }

    private static boolean two(int a, int b) {
        return person(a) && person(b) && a != b;
    }

    private boolean feud(int number) {
        return number >= 0 && number < world.quarrels.size();
    }

    private boolean noList() {
        return world.quarrels.isEmpty();
    }

    int letter(int code) {
        if (code < 1 || code > 126) {
            return OUTSIDE;
        }
        if (page.length() == 40) {
            return FULL;
        }
        page += (char) code;
        return page.length();
    }

    int blank() {
        int had = page.length();
        page = "";
        return had;
    }

    int fault() {
        for (int end = 1; end <= page.length(); end++) {
            Matcher matcher = LIST.matcher(page.substring(0, end));
            if (!matcher.matches() && !matcher.hitEnd()) {
                return end - 1;
            }
        }
        return page.length();
    }

    int list() {
        if (!LIST.matcher(page).matches()) {
            return STATE;
        }
        world = new World();
        Matcher matcher = Pattern.compile(ONE_FEUD).matcher(page);
        while (matcher.find()) {
            Quarrel quarrel = new Quarrel();
            quarrel.kind = matcher.group(1).isEmpty() ? ' ' : matcher.group(1).charAt(0);
            quarrel.sides[0].whose = matcher.group(2).charAt(0) - '0';
            quarrel.sides[1].whose = matcher.group(2).charAt(1) - '0';
            quarrel.worth = Integer.parseInt(matcher.group(3));
            world.quarrels.add(quarrel);
        }
        page = "";
        kept = null;
        reads++;
        return world.quarrels.size();
    }

    int about(int feud, int what) {
        if (!feud(feud)) {
            return UNKNOWN;
        }
        Quarrel quarrel = world.quarrels.get(feud);
        if (what < 0 || what > 8) {
            return OUTSIDE;
        }
        if (what == 0) {
            return " bjgp".indexOf(quarrel.kind);
        }
        if (what == 1) {
            return quarrel.worth;
        }
        if (what == 2) {
            return quarrel.struck ? 1 : 0;
        }
        if (quarrel.struck) {
            return NONE;
        }
        Side side = quarrel.sides[(what - 3) % 2];
        if (what <= 4) {
            return told(side.on());
        }
        if (what <= 6) {
            return side.lentTo == null ? NONE : side.whose;
        }
        return quarrel.price(what - 7);
    }

    int as(int feud, int kind) {
        if (!feud(feud)) {
            return UNKNOWN;
        }
        if (kind < 0 || kind > 4) {
            return OUTSIDE;
        }
        int real = about(feud, 0);
        return kind == 0 || kind == real || (kind == 3 && real == 4) ? feud : NONE;
    }

    int person(int person, int what) {
        if (!person(person)) {
            return UNKNOWN;
        }
        Human human = world.humans.get(person);
        switch (what) {
            case 0:
                return human.money;
            case 1:
                return told(human.heir);
            case 2:
                return human.alive ? 1 : 0;
            case 3:
                int on = 0;
                for (int feud = 0; feud < world.quarrels.size(); feud++) {
                    on += about(feud, 3) == person ? 1 : 0;
                    on += about(feud, 4) == person ? 1 : 0;
                }
                return on;
            case 4:
            case 5:
                return (int) world.harms.stream().filter(harm -> harm[what - 4] == person).count();
            default:
                return OUTSIDE;
        }
    }

    int heir(int person, int heir) {
        if (!person(person) || !(heir == NONE || person(heir)) || heir == person) {
            return UNKNOWN;
        }
        Human human = world.humans.get(person);
        if (noList() || !human.alive) {
            return STATE;
        }
        int was = told(human.heir);
        human.heir = heir == NONE ? null : heir;
        return was;
    }

    int buy(int person, int feud, int side) {
        if (!person(person) || !feud(feud)) {
            return UNKNOWN;
        }
        if (side < 0 || side > 1) {
            return OUTSIDE;
        }
        Integer price = world.purchase(person, feud, side);
        return price == null ? STATE : price;
    }

    int lend(int feud, int side, int person) {
        if (!person(person) || !feud(feud)) {
            return UNKNOWN;
        }
        if (side < 0 || side > 1) {
            return OUTSIDE;
        }
        Quarrel quarrel = world.quarrels.get(feud);
        Side lent = quarrel.sides[side];
        if (quarrel.struck || "bgp".indexOf(quarrel.kind) < 0 || lent.whose == null || lent.lentTo != null
                || !world.humans.get(person).alive || quarrel.concerns(person)) {
            return STATE;
        }
        lent.lentTo = person;
        return lent.whose;
    }

    int peace(int feud) {
        if (!feud(feud)) {
            return UNKNOWN;
        }
        Quarrel quarrel = world.quarrels.get(feud);
        int open = 0;
        int lent = 0;
        for (Side side : quarrel.sides) {
            open += side.whose == null ? 1 : 0;
            lent += side.lentTo != null ? 1 : 0;
        }
        if (quarrel.struck || lent > 0 || open > (quarrel.kind == 'j' ? 1 : 0)) {
            return STATE;
        }
        quarrel.struck = true;
        quarrel.sides = new Side[] {new Side(), new Side()};
        return world.struck();
    }

    int death(int person) {
        if (!person(person)) {
            return UNKNOWN;
        }
        return noList() || !world.humans.get(person).alive ? STATE : world.decease(person);
    }

    int mayHarm(int a, int b) {
        if (!two(a, b)) {
            return UNKNOWN;
        }
        for (int worth = 9; worth >= 1; worth--) {
            for (int feud = 0; feud < world.quarrels.size(); feud++) {
                Quarrel quarrel = world.quarrels.get(feud);
                if (quarrel.worth == worth && quarrel.isBetween(a, b)) {
                    return feud;
                }
            }
        }
        return NONE;
    }

    int harm(int a, int b) {
        int feud = mayHarm(a, b);
        if (feud == UNKNOWN) {
            return UNKNOWN;
        }
        if (feud == NONE) {
            return STATE;
        }
        if (world.harms.size() == 12) {
            return FULL;
        }
        world.harms.add(new int[] {a, b});
        return feud;
    }

    int season() {
        return noList() ? STATE : world.turnSeason();
    }

    private Integer cost(int feud, int first, int second) {
        World tried = world.copy();
        int[] who = {first, second};
        int sum = 0;
        for (int side = 0; side < 2; side++) {
            if (!Integer.valueOf(who[side]).equals(tried.quarrels.get(feud).sides[side].on())) {
                Integer price = tried.purchase(who[side], feud, side);
                if (price == null) {
                    return null;
                }
                sum += price;
            }
        }
        return sum;
    }

    int comeBy(int a, int b, int what) {
        if (!two(a, b)) {
            return UNKNOWN;
        }
        if (what < 0 || what > 1) {
            return OUTSIDE;
        }
        if (noList() || !world.humans.get(a).alive || !world.humans.get(b).alive) {
            return STATE;
        }
        for (int money = 0; money <= 200; money++) {
            for (int feud = 0; feud < world.quarrels.size(); feud++) {
                Integer one = cost(feud, a, b);
                Integer other = cost(feud, b, a);
                if ((one != null && one == money) || (other != null && other == money)) {
                    return what == 0 ? money : feud;
                }
            }
        }
        return NONE;
    }

    private void allPairings(int from, List<int[]> pairs, int[] best) {
        if (from == 6) {
            int struck = 0;
            for (Quarrel quarrel : world.quarrels) {
                struck += pairs.stream().anyMatch(pair -> quarrel.isBetween(pair[0], pair[1])) ? 1 : 0;
            }
            if (struck > best[0] || (struck == best[0] && pairs.size() < best[1])) {
                best[0] = struck;
                best[1] = pairs.size();
            }
            return;
        }
        allPairings(from + 1, pairs, best);
        for (int other = from + 1; other < 6; other++) {
            int one = from;
            int two = other;
            boolean taken = pairs.stream().anyMatch(
                    pair -> pair[0] == one || pair[1] == one || pair[0] == two || pair[1] == two);
            if (!taken && world.humans.get(one).alive && world.humans.get(two).alive) {
                pairs.add(new int[] {one, two});
                allPairings(from + 1, pairs, best);
                pairs.remove(pairs.size() - 1);
            }
        }
    }

    int marry(int what) {
        if (what < 0 || what > 1) {
            return OUTSIDE;
        }
        if (noList()) {
            return STATE;
        }
        int[] best = {0, 0};
        allPairings(0, new ArrayList<>(), best);
        return best[what];
    }

    int wills(int set, int person) {
        if (!person(person)) {
            return UNKNOWN;
        }
        if (set < 0 || set > 63) {
            return OUTSIDE;
        }
        if (noList()) {
            return STATE;
        }
        World tried = world.copy();
        for (int one = 0; one < 6; one++) {
            if ((set & 1 << one) != 0 && tried.humans.get(one).alive) {
                tried.decease(one);
            }
        }
        int bits = 0;
        for (int feud = 0; feud < tried.quarrels.size(); feud++) {
            for (int side = 0; side < 2; side++) {
                if (Integer.valueOf(person).equals(tried.quarrels.get(feud).sides[side].on())) {
                    bits += 1 << (2 * feud + side);
                }
            }
        }
        return bits;
    }

    long left(int years, int many, int part) {
        if (years < 1 || years > 2 || many < 0 || many > 8 || part < 0 || part > 1) {
            return OUTSIDE;
        }
        if (noList()) {
            return STATE;
        }
        List<Quarrel> standing = new ArrayList<>(world.quarrels);
        standing.removeIf(quarrel -> quarrel.struck);
        BigInteger all = BigInteger.TEN.pow(years * standing.size());
        BigInteger sum = BigInteger.ZERO;
        for (int set = 0; set < 1 << standing.size(); set++) {
            if (Integer.bitCount(set) == many) {
                BigInteger ways = BigInteger.ONE;
                for (int i = 0; i < standing.size(); i++) {
                    BigInteger stays = BigInteger.valueOf(standing.get(i).worth).pow(years);
                    BigInteger goes = BigInteger.TEN.pow(years).subtract(stays);
                    ways = ways.multiply((set & 1 << i) != 0 ? stays : goes);
                }
                sum = sum.add(ways);
            }
        }
        BigInteger common = sum.gcd(all);
        return (part == 0 ? sum : all).divide(common).longValueExact();
    }

    int register(int a, int b) {
        if (!two(a, b)) {
            return UNKNOWN;
        }
        if (world.registers.size() == 8) {
            return FULL;
        }
        world.registers.add(new int[] {a, b});
        return world.registers.size();
    }

    int forget() {
        int had = world.registers.size();
        world.registers.clear();
        return had;
    }

    int lapsed(int what) {
        if (what < 0 || what > 1) {
            return OUTSIDE;
        }
        if (noList()) {
            return STATE;
        }
        Set<Integer> fitting = new HashSet<>();
        for (int a = 0; a < 6; a++) {
            for (int b = 0; b < 6; b++) {
                Set<Integer> pair = new HashSet<>(List.of(a, b));
                if (a != b && world.registers.stream().allMatch(register ->
                        pair.equals(Set.of(register[0], register[1])) || world.anyBetween(register[0], register[1]))) {
                    fitting.add(6 * Math.min(a, b) + Math.max(a, b));
                }
            }
        }
        if (what == 0) {
            return fitting.size();
        }
        return fitting.size() == 1 ? fitting.iterator().next() : NONE;
    }

    int years(int years, int seed, int what) {
        if (years < 1 || years > 60 || seed < 0 || what < 0 || what > 3) {
            return OUTSIDE;
        }
        if (noList()) {
            return STATE;
        }
        World tried = world.copy();
        long[] at = {seed};
        java.util.function.IntUnaryOperator draw = bound -> {
            at[0] = BigInteger.valueOf(at[0]).multiply(BigInteger.valueOf(1103515245)).add(BigInteger.valueOf(12345))
                    .mod(BigInteger.valueOf(1L << 31)).longValueExact();
            return (int) (at[0] / 65536 % bound);
        };
        for (int year = 0; year < years; year++) {
            int one = draw.applyAsInt(6);
            int feud = draw.applyAsInt(tried.quarrels.size());
            int side = draw.applyAsInt(2);
            tried.purchase(one, feud, side);
            int ill = draw.applyAsInt(6);
            if (tried.humans.get(ill).alive && draw.applyAsInt(4) == 0) {
                tried.decease(ill);
            }
            tried.turnSeason();
        }
        int money = tried.humans.stream().mapToInt(human -> human.money).sum();
        return new int[] {tried.alive(), money, tried.open(), (int) at[0]}[what];
    }

    int image() {
        if (noList()) {
            return STATE;
        }
        kept = world.copy();
        return world.quarrels.size() - world.struck();
    }

    int restore() {
        if (kept == null) {
            return STATE;
        }
        world = kept.copy();
        return world.quarrels.size() - world.struck();
    }

    int count(int what) {
        if (what < 0 || what > 8) {
            return OUTSIDE;
        }
        return new int[] {world.quarrels.size(), world.struck(), world.alive(), world.open(), world.lent(),
            world.harms.size(), world.registers.size(), page.length(), reads}[what];
    }

    long digest() {
        List<Integer> numbers = new ArrayList<>();
        for (int feud = 0; feud < world.quarrels.size(); feud++) {
            for (int what = 0; what < 9; what++) {
                numbers.add(about(feud, what));
            }
        }
        for (int one = 0; one < 6; one++) {
            for (int what = 0; what < 6; what++) {
                numbers.add(person(one, what));
            }
        }
        for (int a = 0; a < 6; a++) {
            for (int b = 0; b < 6; b++) {
                if (a != b) {
                    numbers.add(mayHarm(a, b));
                }
            }
        }
        if (!noList()) {
            numbers.addAll(List.of(marry(0), marry(1), lapsed(0), lapsed(1)));
        }
        page.chars().forEach(numbers::add);
        for (int what = 0; what < 9; what++) {
            numbers.add(count(what));
        }
        BigInteger h = BigInteger.valueOf(751);
        for (int number : numbers) {
            h = h.multiply(BigInteger.valueOf(31)).add(BigInteger.valueOf(number));
        }
        return h.longValue();
    }
}
