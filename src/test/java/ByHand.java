import java.util.function.LongSupplier;

/** What the tests by hand have in common. */
abstract class ByHand {
    static final int NONE = -1, UNKNOWN = -101, OUTSIDE = -102, STATE = -103, FULL = -104;
    static final int LOW = Integer.MIN_VALUE, HIGH = Integer.MAX_VALUE;
    static final int[] NO_PERSON = {-1, 6, 7, LOW, HIGH};
    static final Tally tally = new Tally();
    private static String sentence = "";

    /** The words of the document that the answers from here on are held against. */
    static void sentence(String words) {
        sentence = "[" + words + "] ";
    }

    static void due(String what, long got, long want) {
        tally.due(sentence + what, got, want);
    }

    static void write(ClosedFeuds x, String text) {
        for (char sign : text.toCharArray()) {
            x.letter(sign);
        }
    }

    static ClosedFeuds read(String text) {
        ClosedFeuds x = new ClosedFeuds();
        readAgain(x, text);
        return x;
    }

    static void readAgain(ClosedFeuds x, String text) {
        x.blank();
        write(x, text);
        due("list of " + text, x.list(), text.split(",").length);
    }

    /** A refusal that is due and changes nothing that digest() tells. */
    static void refused(String what, ClosedFeuds x, LongSupplier call, int refusal) {
        long before = x.digest();
        due(what, call.getAsLong(), refusal);
        due(what + " changes nothing", x.digest(), before);
    }

    static void seasons(ClosedFeuds x, int many) {
        for (int i = 0; i < many; i++) {
            x.season();
        }
    }
}
