import java.util.ArrayList;
import java.util.List;
import java.util.StringJoiner;
import java.util.function.Consumer;
import java.util.function.Function;
import java.util.function.Supplier;
import java.util.function.ToLongFunction;

/**
 * Promise 16: a call that is refused changes nothing. In each of three states, each call that is
 * refused there is made, and then every view of the object is as it is without that call.
 */
public final class RefusalTest {
    /** Characters that no state describes; the views use them. */
    private static final int LETTER = 35;
    private static final int EXTEND = 36;
    private static final int RIGHT = 37;
    private static final int BEGIN = 38;
    private static final int PLAIN = 39;

    private record Refusal(String name, ToLongFunction<ScriptText> call, long answer) {
    }

    private record View(String name, Function<ScriptText, String> read) {
    }

    private final Due due = new Due();
    private final List<View> views = views();
    private final List<Refusal> refusals = new ArrayList<>();

    public static void main(String[] args) {
        RefusalTest test = new RefusalTest();
        test.holdsFor("a new object", ScriptText::new, RefusalTest::refusedByNew);
        test.holdsFor("a described object", RefusalTest::described, RefusalTest::refusedByDescribed);
        test.holdsFor("a full object", RefusalTest::full, RefusalTest::refusedByFull);
        test.due.end("RefusalTest");
    }

    // States

    private static ScriptText described() {
        int[][] descriptions = {
            {2, 0, 2, 0}, {3, 0, 5, 0}, {25, 0, 3, 0}, {20, 1, 1, 2}, {21, 2, 20, 5}, {22, 1, 20, 3}, {23, 1, 1, 3},
            {23, 4, 1, 0}, {30, 1, 6, -1}, {31, 2, 30, 7}, {20, 5, 8, 0}, {25, 5, 8, 0}, {0, 5, 10, 0}, {47, 5, 9, 0},
            {20, 6, 11, 12}, {25, 6, 12, 11}, {0, 6, 14, 15}, {47, 6, 13, -1}, {20, 7, 16, 0}, {25, 7, 17, 0},
            {8, 8, 1, 0}, {9, 8, 2, 0}, {10, 8, 3, 0}, {4, 8, 4, 0}, {5, 8, 5, 0}, {6, 8, 6, 0}, {7, 8, 7, 0},
            {20, 8, 4, 0}, {25, 8, 4, 0}, {20, 9, 77, 89}, {25, 9, 76, 88}, {0, 9, 50, 23}, {47, 9, 0, 0},
            {25, 10, 17, 18}, {24, 10, 0, 47}, {10, 12, 11, 30}, {11, 12, 12, 31}, {25, 12, 26, 32}, {25, 12, 25, 33},
            {1, 12, 2, 34}, {1, 14, 1, 0}, {2, 14, 2, 0}, {3, 14, 3, 0}, {4, 14, 4, 0}, {5, 14, 5, 0}, {6, 14, 6, 0},
            {25, 14, 1, 0}, {20, 14, 2, 0},
        };
        ScriptText x = new ScriptText();
        for (int[] d : descriptions) {
            Given.described(x, d[0], d[1], d[2], d[3]);
        }
        Given.text(x, 0, 25, 20, 2, 1, 4, 47, 0, 25);
        x.cased(0, 1);
        Given.text(x, 1, 20, 25, 26, 3);
        return x;
    }

    /** Both texts have 16, there are 6 contractions, and the result is longer than 16. */
    private static ScriptText full() {
        ScriptText x = described();
        Given.described(x, 41, 1, 20, 20);
        Given.described(x, 12, 12, 13, 27);
        Given.text(x, 0, 41, 25, 20, 2, 1, 4, 47, 0, 25, 22, 23, 24, 3, 10, 11, 25);
        Given.text(x, 1, 12, 13, 25, 26, 4, 41, 5, 1, 2, 6, 7, 41, 25, 9, 0, 47);
        x.normal(0, 2);
        return x;
    }

    // Calls that are refused

    private void refused(String name, ToLongFunction<ScriptText> call, long answer) {
        refusals.add(new Refusal(name, call, answer));
    }

    private void refusedDescribe(int c, int what, int a, int b) {
        refused("describe(" + c + ", " + what + ", " + a + ", " + b + ")", x -> x.describe(c, what, a, b) ? 1 : 0, 0);
    }

    private void refusedInsert(int text, int at, int c) {
        refused("insert(" + text + ", " + at + ", " + c + ")", x -> x.insert(text, at, c) ? 1 : 0, 0);
    }

    private void refusedErase(int text, int at) {
        refused("erase(" + text + ", " + at + ")", x -> x.erase(text, at) ? 1 : 0, 0);
    }

    private void refusedTake(int text) {
        refused("take(" + text + ")", x -> x.take(text) ? 1 : 0, 0);
    }

    private void refusedForm(int text, int form) {
        refused("normal(" + text + ", " + form + ")", x -> x.normal(text, form), -1);
        refused("isNormal(" + text + ", " + form + ")", x -> x.isNormal(text, form) ? 1 : 0, 0);
        refused("cased(" + text + ", " + form + ")", x -> x.cased(text, form), -1);
    }

    private void refusedBreaks(int text, int kind) {
        refused("breaks(" + text + ", " + kind + ")", x -> x.breaks(text, kind), 0);
    }

    private void refusedPage(int text, int base, int k) {
        refused("level(" + text + ", " + base + ", " + k + ")", x -> x.level(text, base, k), -1);
        refused("onPage(" + text + ", " + base + ", " + k + ")", x -> x.onPage(text, base, k), -1);
    }

    private void refusedKey(int text, int level, int k) {
        refused("key(" + text + ", " + level + ", " + k + ")", x -> x.key(text, level, k), 0);
    }

    /** What every state refuses. */
    private void refusedByAll() {
        for (int what = 0; what <= 14; what++) {
            for (int c : new int[] {-1, 48, Integer.MAX_VALUE, Integer.MIN_VALUE}) {
                refusedDescribe(c, what, 0, 0);
                refusedDescribe(c, what, 1, 1);
            }
        }
        for (int c : new int[] {20, 25, 0, 47}) {
            wrongWhatsAndOperands(c);
        }
        for (int wrong : Outside.of(0, 1)) {
            refusedInsert(wrong, 0, 5);
            refusedErase(wrong, 0);
            refusedTake(wrong);
            refusedForm(wrong, 0);
            refusedForm(wrong, 3);
            refusedBreaks(wrong, 0);
            refusedBreaks(0, wrong);
            refusedPage(wrong, 0, 0);
            refusedPage(0, wrong, 0);
            refusedKey(wrong, 1, 0);
        }
        for (int wrong : Outside.of(0, 47)) {
            refusedInsert(0, 0, wrong);
            refusedInsert(1, 0, wrong);
        }
        for (int text = 0; text < 2; text++) {
            wrongPlacesFormsAndLevels(text);
        }
        for (int wrong : Outside.of(0, 63)) {
            refused("result(" + wrong + ")", x -> x.result(wrong), -1);
        }
        for (int wrong : Outside.of(1, 4)) {
            refused("compare(" + wrong + ")", x -> x.compare(wrong), 2);
            refused("search(" + wrong + ")", x -> x.search(wrong), -1);
        }
    }

    private void wrongWhatsAndOperands(int c) {
        for (int what : Outside.of(0, 14)) {
            refusedDescribe(c, what, 0, 0);
        }
        int[][] ranges = {
            {0, 0, 9}, {1, 0, c - 1}, {2, 0, c - 1}, {4, 0, 1}, {5, 0, 47}, {6, 0, 47}, {7, -1, 47}, {8, 0, 7},
            {9, 0, 99}, {10, 0, 47}, {12, 0, 47}, {13, 0, 47}, {14, 0, 6},
        };
        for (int[] range : ranges) {
            for (int a : new int[] {range[1] - 1, range[2] + 1, Integer.MIN_VALUE, Integer.MAX_VALUE}) {
                refusedDescribe(c, range[0], a, 0);
                refusedDescribe(c, range[0], a, 1);
            }
        }
        int[][] rangesOfB = {{1, -1, c - 1}, {2, -1, c - 1}, {6, -1, 47}, {9, 0, 99}, {10, 0, 47}, {12, 0, 47}};
        for (int[] range : rangesOfB) {
            for (int b : new int[] {range[1] - 1, range[2] + 1, Integer.MIN_VALUE, Integer.MAX_VALUE}) {
                refusedDescribe(c, range[0], 0, b);
                refusedDescribe(c, range[0], 26, b);
            }
        }
    }

    private void wrongPlacesFormsAndLevels(int text) {
        for (int wrong : Outside.of(0, 16)) {
            refusedInsert(text, wrong, 5);
            refusedErase(text, wrong);
            refusedPage(text, 0, wrong);
            refusedPage(text, 1, wrong);
        }
        for (int wrong : Outside.of(0, 3)) {
            refusedForm(text, wrong);
        }
        for (int wrong : Outside.of(1, 3)) {
            refusedKey(text, wrong, 0);
        }
        for (int wrong : Outside.of(0, 127)) {
            refusedKey(text, 1, wrong);
            refusedKey(text, 3, wrong);
        }
    }

    private void refusedByNew() {
        for (int text = 0; text < 2; text++) {
            refusedErase(text, 0);
            refusedInsert(text, 1, 5);
            refusedPage(text, 0, 0);
            refusedKey(text, 1, 0);
        }
        refused("result(0)", x -> x.result(0), -1);
    }

    private void refusedByDescribed() {
        refusedErase(0, 8);
        refusedErase(1, 4);
        refusedInsert(0, 9, 5);
        refusedInsert(1, 5, 5);
        refusedPage(0, 0, 8);
        refusedPage(1, 1, 4);
        refusedDescribe(40, 1, 21, 21);
        refusedDescribe(40, 2, 22, 20);
        refusedDescribe(25, 2, 21, 22);
        refusedDescribe(20, 1, 20, -1);
    }

    private void refusedByFull() {
        for (int at = 0; at <= 16; at++) {
            refusedInsert(0, at, 5);
            refusedInsert(1, at, 5);
        }
        refusedErase(0, 16);
        refusedErase(1, 16);
        refusedPage(0, 0, 16);
        refusedPage(1, 1, 16);
        refusedTake(0);
        refusedTake(1);
        refusedDescribe(25, 12, 27, 1);
        refusedDescribe(11, 12, 10, 1);
        refusedDescribe(46, 12, 45, 44);
        refusedDescribe(42, 1, 41, 5);
        refusedDescribe(42, 2, 5, 41);
        refusedDescribe(47, 1, 41, 41);
        refusedDescribe(25, 1, 21, 20);
        // Character 41 is twice 1 and 2.
        refusedDescribe(1, 1, 0, 0);
        refusedDescribe(2, 2, 0, 1);
        refusedDescribe(20, 1, 2, 21);
        refusedDescribe(20, 2, 19, 20);
    }

    // Views, each with so few calls that a state fits before it

    private static List<View> views() {
        List<View> views = new ArrayList<>();
        views.add(new View("the result", Given::result));
        views.add(new View("taking the result", RefusalTest::taken));
        for (int text = 0; text < 2; text++) {
            int t = text;
            for (int how = 0; how < 4; how++) {
                int h = how;
                views.add(new View("form " + h + " of text " + t, x -> Given.normal(x, t, h)));
                views.add(new View("case " + h + " of text " + t, x -> Given.cased(x, t, h)));
            }
            views.add(new View("places of text " + t, x -> places(x, t)));
            views.add(new View("room in text " + t, x -> room(x, t)));
        }
        views.add(new View("order", RefusalTest::order));
        for (int from = 0; from < 48; from += 16) {
            addViewsOfCharacters(views, from);
        }
        views.add(new View("final forms", RefusalTest::finalForms));
        views.add(new View("kinds", RefusalTest::kinds));
        views.add(new View("directions below 24", x -> directions(x, 0)));
        views.add(new View("directions from 24 on", x -> directions(x, 24)));
        views.add(new View("room for contractions", RefusalTest::roomForContractions));
        views.add(new View("room in decompositions", RefusalTest::roomInDecompositions));
        return views;
    }

    /** Sixteen characters as text 1, in all forms and cases and with all keys. */
    private static void addViewsOfCharacters(List<View> views, int from) {
        for (int how = 0; how < 4; how++) {
            int h = how;
            views.add(new View("form " + h + " from " + from, x -> Given.normal(filled(x, from), 1, h)));
            views.add(new View("case " + h + " from " + from, x -> Given.cased(filled(x, from), 1, h)));
        }
        for (int level = 1; level <= 3; level++) {
            int l = level;
            views.add(new View("key " + l + " from " + from, x -> Given.key(filled(x, from), 1, l)));
        }
    }

    private static ScriptText filled(ScriptText x, int from) {
        for (int i = 0; i < 16; i++) {
            x.erase(1, 0);
        }
        for (int i = 0; i < 16; i++) {
            x.insert(1, i, from + i);
        }
        return x;
    }

    private static String taken(ScriptText x) {
        boolean took = x.take(0);
        return took + " " + Given.normal(x, 0, 0) + " " + x.take(1);
    }

    private static String places(ScriptText x, int text) {
        return Given.levels(x, text, 0) + " " + Given.page(x, text, 0) + " " + Given.levels(x, text, 1) + " "
            + Given.page(x, text, 1) + " " + x.breaks(text, 0) + " " + x.breaks(text, 1);
    }

    private static String room(ScriptText x, int text) {
        int inserted = 0;
        for (int i = 0; i < 17; i++) {
            inserted += x.insert(text, i, PLAIN) ? 1 : 0;
        }
        int erased = 0;
        for (int i = 0; i < 17; i++) {
            erased += x.erase(text, 0) ? 1 : 0;
        }
        return inserted + " in, " + erased + " out";
    }

    private static String order(ScriptText x) {
        StringJoiner row = new StringJoiner(" ");
        for (int level = 1; level <= 4; level++) {
            row.add("" + x.compare(level)).add("" + x.search(level));
        }
        for (int form = 0; form < 4; form++) {
            row.add("" + x.isNormal(0, form)).add("" + x.isNormal(1, form));
        }
        return row.toString();
    }

    private static String finalForms(ScriptText x) {
        x.describe(LETTER, 8, 4, 0);
        Given.text(x, 1, LETTER, LETTER);
        StringJoiner row = new StringJoiner(" ");
        for (int c = 0; c < 48; c++) {
            x.erase(1, 1);
            x.insert(1, 1, c);
            x.cased(1, 0);
            row.add("" + x.result(1));
        }
        return row.toString();
    }

    private static String kinds(ScriptText x) {
        x.describe(LETTER, 8, 4, 0);
        x.describe(EXTEND, 8, 2, 0);
        Given.text(x, 1, LETTER, PLAIN, LETTER, PLAIN, EXTEND);
        StringJoiner row = new StringJoiner(" ");
        for (int c = 0; c < 48; c++) {
            x.erase(1, 3);
            x.insert(1, 3, c);
            x.erase(1, 1);
            x.insert(1, 1, c);
            row.add("" + x.breaks(1, 0)).add("" + x.breaks(1, 1));
        }
        return row.toString();
    }

    private static String directions(ScriptText x, int from) {
        x.describe(RIGHT, 14, 1, 0);
        x.describe(BEGIN, 14, 4, 0);
        Given.text(x, 1, PLAIN, PLAIN, PLAIN, RIGHT, PLAIN, RIGHT, BEGIN, PLAIN, PLAIN, RIGHT);
        StringJoiner row = new StringJoiner(" ");
        for (int c = from; c < from + 24; c++) {
            for (int at = 1; at <= 7; at += 3) {
                x.erase(1, at);
                x.insert(1, at, c);
                row.add("" + x.level(1, 0, at));
            }
            row.add("" + x.level(1, 0, 9));
        }
        return row.toString();
    }

    /** How many more there may be, and what the pairs that were described mean. */
    private static String roomForContractions(ScriptText x) {
        int[][] pairs = {{10, 11}, {11, 12}, {25, 26}, {25, 25}, {1, 2}, {12, 13}, {20, 0}, {20, 26}, {25, 0}, {0, 0}, {47, 0}};
        StringJoiner row = new StringJoiner(" ");
        for (int[] pair : pairs) {
            Given.text(x, 1, pair[0], pair[1]);
            row.add(Given.key(x, 1, 1) + ",");
        }
        for (int i = 0; i < 7; i++) {
            row.add("" + x.describe(PLAIN, 12, i, 46));
        }
        return row.toString();
    }

    /** Whether each character may still be made a pair, or three. */
    private static String roomInDecompositions(ScriptText x) {
        StringJoiner row = new StringJoiner(" ");
        Given.described(x, RIGHT, 1, LETTER, EXTEND);
        for (int c = RIGHT + 1; c < 48; c++) {
            row.add("" + x.describe(c, 2, RIGHT, c - 1));
        }
        for (int c = 1; c < 48; c++) {
            row.add("" + x.describe(c, 2, 0, 0)).add("" + x.describe(c, 3, 0, 0));
        }
        return row.toString();
    }

    // Refusing

    private void holdsFor(String state, Supplier<ScriptText> make, Consumer<RefusalTest> own) {
        due.sentence("promise 16: a call that is refused changes nothing, in " + state);
        refusals.clear();
        refusedByAll();
        own.accept(this);
        List<String> before = new ArrayList<>();
        for (View view : views) {
            before.add(view.read().apply(make.get()));
        }
        for (Refusal refusal : refusals) {
            for (int v = 0; v < views.size(); v++) {
                ScriptText x = make.get();
                due.is(refusal.name(), refusal.call().applyAsLong(x), refusal.answer());
                String call = views.get(v).name() + " behind " + refusal.name();
                due.is(call, views.get(v).read().apply(x), before.get(v));
            }
        }
    }
}
