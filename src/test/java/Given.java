import java.util.StringJoiner;
import java.util.function.IntUnaryOperator;

/** Short ways to bring an object into a state and to read it. */
final class Given {
    /** A kind's place here is its number. */
    static final String KINDS = "OCEPLDMJ";
    /** A direction's place here is its number. */
    static final String DIRECTIONS = "LRNO([)";

    private static final int MOST = 16;
    /** More than any row has, so that a test of a broken program ends. */
    private static final int MOST_ANSWERS = 150;

    private Given() {
    }

    /** Puts these characters into a text in place of what it was. */
    static void text(ScriptText x, int text, int... characters) {
        boolean wasOne = true;
        for (int i = 0; i < MOST && wasOne; i++) {
            wasOne = x.erase(text, 0);
        }
        for (int i = 0; i < characters.length; i++) {
            if (!x.insert(text, i, characters[i])) {
                throw new IllegalStateException("character " + i + " of a text was refused");
            }
        }
    }

    /** Puts the characters that stand at the letters' places in an alphabet into a text. */
    static void row(ScriptText x, int text, String alphabet, String letters) {
        text(x, text, letters.chars().map(alphabet::indexOf).toArray());
    }

    /** Character k has the kind k, for each kind. */
    static ScriptText withKinds() {
        ScriptText x = new ScriptText();
        for (int k = 0; k < KINDS.length(); k++) {
            described(x, k, 8, k, 0);
        }
        return x;
    }

    /** Character k has the direction k, for each direction. */
    static ScriptText withDirections() {
        ScriptText x = new ScriptText();
        for (int k = 0; k < DIRECTIONS.length(); k++) {
            described(x, k, 14, k, 0);
        }
        return x;
    }

    static void described(ScriptText x, int c, int what, int a, int b) {
        if (!x.describe(c, what, a, b)) {
            throw new IllegalStateException("describe(" + c + ", " + what + ", " + a + ", " + b + ") was refused");
        }
    }

    /** The answers for 0, 1, 2 and so on before the one that tells the end, or the most there may be. */
    private static String upTo(int end, IntUnaryOperator answer) {
        StringJoiner row = new StringJoiner(" ");
        int got = answer.applyAsInt(0);
        for (int k = 0; k < MOST_ANSWERS && got != end; k++) {
            row.add("" + got);
            got = answer.applyAsInt(k + 1);
        }
        return row.toString();
    }

    /** The result, as the numbers of its characters. */
    static String result(ScriptText x) {
        return upTo(-1, x::result);
    }

    /** A text, read by its upper case where no upper case has been described; the result changes. */
    static String plain(ScriptText x, int text) {
        x.cased(text, 1);
        return result(x);
    }

    static String normal(ScriptText x, int text, int form) {
        int length = x.normal(text, form);
        return length + ": " + result(x);
    }

    static String cased(ScriptText x, int text, int how) {
        int length = x.cased(text, how);
        return length + ": " + result(x);
    }

    static String key(ScriptText x, int text, int level) {
        return upTo(0, k -> x.key(text, level, k));
    }

    /** The levels of a text's characters; each is a single digit. */
    static String levels(ScriptText x, int text, int base) {
        return upTo(-1, at -> x.level(text, base, at)).replace(" ", "");
    }

    static String page(ScriptText x, int text, int base) {
        return upTo(-1, k -> x.onPage(text, base, k));
    }

    /** A text of these letters with a bar at each of the places in a sum of breaks. */
    static String barred(String letters, int sum) {
        StringBuilder row = new StringBuilder();
        for (int place = 0; place <= letters.length(); place++) {
            row.append((sum >> place & 1) == 1 ? "|" : "");
            row.append(place < letters.length() ? letters.substring(place, place + 1) : "");
        }
        return row + (sum >> letters.length() + 1 == 0 ? "" : " and more");
    }
}
