import java.util.ArrayList;
import java.util.List;
import java.util.function.Consumer;
import java.util.function.Supplier;
import java.util.function.ToLongFunction;

/**
 * Promise 16: a call that is refused changes nothing. In each of three states, each call that is
 * refused there is made, and then every view of the object is as it is without that call.
 */
public final class RefusalTest {
    private record Refusal(String name, ToLongFunction<ScriptText> call, long answer) {
    }

    private final Due due = new Due();
    private final List<Views.View> views = Views.all();
    private final List<Refusal> refusals = new ArrayList<>();

    public static void main(String[] args) {
        RefusalTest test = new RefusalTest();
        test.holdsFor("a new object", ScriptText::new, RefusalTest::refusedByNew);
        test.holdsFor("a described object", Views::described, RefusalTest::refusedByDescribed);
        test.holdsFor("a full object", Views::full, RefusalTest::refusedByFull);
        test.due.end("RefusalTest");
    }

    // Calls that are refused

    private void refused(String name, ToLongFunction<ScriptText> call, long answer) {
        refusals.add(new Refusal(name, call, answer));
    }

    private void refusedDescribe(int c, int what, int a, int b) {
        refused("describe(" + c + ", " + what + ", " + a + ", " + b + ")", x -> x.describe(c, what, a, b) ? 1 : 0, 0);
    }

    private void refusedInsert(int text, int at, int c) {
        refused("insert(" + text + ", " + at + ", " + c + ")", x -> x.insert(text, at, c) ? 1 : 0, 0);
    }

    private void refusedErase(int text, int at) {
        refused("erase(" + text + ", " + at + ")", x -> x.erase(text, at) ? 1 : 0, 0);
    }

    private void refusedTake(int text) {
        refused("take(" + text + ")", x -> x.take(text) ? 1 : 0, 0);
    }

    private void refusedForm(int text, int form) {
        refused("normal(" + text + ", " + form + ")", x -> x.normal(text, form), -1);
        refused("isNormal(" + text + ", " + form + ")", x -> x.isNormal(text, form) ? 1 : 0, 0);
        refused("cased(" + text + ", " + form + ")", x -> x.cased(text, form), -1);
    }

    private void refusedBreaks(int text, int kind) {
        refused("breaks(" + text + ", " + kind + ")", x -> x.breaks(text, kind), 0);
    }

    private void refusedPage(int text, int base, int k) {
        refused("level(" + text + ", " + base + ", " + k + ")", x -> x.level(text, base, k), -1);
        refused("onPage(" + text + ", " + base + ", " + k + ")", x -> x.onPage(text, base, k), -1);
    }

    private void refusedKey(int text, int level, int k) {
        refused("key(" + text + ", " + level + ", " + k + ")", x -> x.key(text, level, k), 0);
    }

    /** What every state refuses. */
    private void refusedByAll() {
        for (int what = 0; what <= 14; what++) {
            for (int c : new int[] {-1, 48, Integer.MAX_VALUE, Integer.MIN_VALUE}) {
                refusedDescribe(c, what, 0, 0);
                refusedDescribe(c, what, 1, 1);
            }
        }
        for (int c : new int[] {20, 25, 0, 47}) {
            wrongWhatsAndOperands(c);
        }
        for (int wrong : Outside.of(0, 1)) {
            refusedInsert(wrong, 0, 5);
            refusedErase(wrong, 0);
            refusedTake(wrong);
            refusedForm(wrong, 0);
            refusedForm(wrong, 3);
            refusedBreaks(wrong, 0);
            refusedBreaks(0, wrong);
            refusedPage(wrong, 0, 0);
            refusedPage(0, wrong, 0);
            refusedKey(wrong, 1, 0);
        }
        for (int wrong : Outside.of(0, 47)) {
            refusedInsert(0, 0, wrong);
            refusedInsert(1, 0, wrong);
        }
        for (int text = 0; text < 2; text++) {
            wrongPlacesFormsAndLevels(text);
        }
        for (int wrong : Outside.of(0, 63)) {
            refused("result(" + wrong + ")", x -> x.result(wrong), -1);
        }
        for (int wrong : Outside.of(1, 4)) {
            refused("compare(" + wrong + ")", x -> x.compare(wrong), 2);
            refused("search(" + wrong + ")", x -> x.search(wrong), -1);
        }
    }

    private void wrongWhatsAndOperands(int c) {
        for (int what : Outside.of(0, 14)) {
            refusedDescribe(c, what, 0, 0);
        }
        int[][] ranges = {
            {0, 0, 9}, {1, 0, c - 1}, {2, 0, c - 1}, {4, 0, 1}, {5, 0, 47}, {6, 0, 47}, {7, -1, 47}, {8, 0, 7},
            {9, 0, 99}, {10, 0, 47}, {12, 0, 47}, {13, 0, 47}, {14, 0, 6},
        };
        for (int[] range : ranges) {
            for (int a : new int[] {range[1] - 1, range[2] + 1, Integer.MIN_VALUE, Integer.MAX_VALUE}) {
                refusedDescribe(c, range[0], a, 0);
                refusedDescribe(c, range[0], a, 1);
            }
        }
        int[][] rangesOfB = {{1, -1, c - 1}, {2, -1, c - 1}, {6, -1, 47}, {9, 0, 99}, {10, 0, 47}, {12, 0, 47}};
        for (int[] range : rangesOfB) {
            for (int b : new int[] {range[1] - 1, range[2] + 1, Integer.MIN_VALUE, Integer.MAX_VALUE}) {
                refusedDescribe(c, range[0], 0, b);
                refusedDescribe(c, range[0], 26, b);
            }
        }
    }

    private void wrongPlacesFormsAndLevels(int text) {
        for (int wrong : Outside.of(0, 16)) {
            refusedInsert(text, wrong, 5);
            refusedErase(text, wrong);
            refusedPage(text, 0, wrong);
            refusedPage(text, 1, wrong);
        }
        for (int wrong : Outside.of(0, 3)) {
            refusedForm(text, wrong);
        }
        for (int wrong : Outside.of(1, 3)) {
            refusedKey(text, wrong, 0);
        }
        for (int wrong : Outside.of(0, 127)) {
            refusedKey(text, 1, wrong);
            refusedKey(text, 3, wrong);
        }
    }

    private void refusedByNew() {
        for (int text = 0; text < 2; text++) {
            refusedErase(text, 0);
            refusedInsert(text, 1, 5);
            refusedPage(text, 0, 0);
            refusedKey(text, 1, 0);
        }
        refused("result(0)", x -> x.result(0), -1);
    }

    private void refusedByDescribed() {
        refusedErase(0, 8);
        refusedErase(1, 4);
        refusedInsert(0, 9, 5);
        refusedInsert(1, 5, 5);
        refusedPage(0, 0, 8);
        refusedPage(1, 1, 4);
        refusedDescribe(40, 1, 21, 21);
        refusedDescribe(40, 2, 22, 20);
        refusedDescribe(25, 2, 21, 22);
        refusedDescribe(22, 1, 20, 21);
        refusedDescribe(31, 2, 22, 21);
        refusedDescribe(20, 1, 20, -1);
    }

    private void refusedByFull() {
        for (int at = 0; at <= 16; at++) {
            refusedInsert(0, at, 5);
            refusedInsert(1, at, 5);
        }
        refusedErase(0, 16);
        refusedErase(1, 16);
        refusedPage(0, 0, 16);
        refusedPage(1, 1, 16);
        refusedTake(0);
        refusedTake(1);
        refusedDescribe(25, 12, 27, 1);
        refusedDescribe(11, 12, 10, 1);
        refusedDescribe(46, 12, 45, 44);
        refusedDescribe(42, 1, 41, 5);
        refusedDescribe(42, 2, 5, 41);
        refusedDescribe(47, 1, 41, 41);
        refusedDescribe(25, 1, 21, 20);
        // Character 41 is twice 1 and 2.
        refusedDescribe(1, 1, 0, 0);
        refusedDescribe(2, 2, 0, 1);
        refusedDescribe(20, 1, 15, 2);
        refusedDescribe(20, 2, 2, 15);
        refusedDescribe(41, 1, 21, 20);
    }

    // Making them

    private void holdsFor(String state, Supplier<ScriptText> make, Consumer<RefusalTest> own) {
        due.sentence("promise 16: a call that is refused changes nothing, in " + state);
        refusals.clear();
        refusedByAll();
        own.accept(this);
        List<String> before = new ArrayList<>();
        for (Views.View view : views) {
            before.add(view.read().apply(make.get()));
        }
        for (Refusal refusal : refusals) {
            for (int v = 0; v < views.size(); v++) {
                ScriptText x = make.get();
                due.is(refusal.name(), refusal.call().applyAsLong(x), refusal.answer());
                String call = views.get(v).name() + " behind " + refusal.name();
                due.is(call, views.get(v).read().apply(x), before.get(v));
            }
        }
    }
}
