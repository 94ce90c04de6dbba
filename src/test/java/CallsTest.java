import java.util.function.ToLongFunction;

/** "An object is used for at most 512 calls": the last of them is answered as the first ones are. */
public final class CallsTest {
    private static final int MOST = 512;

    private record Call(String name, ToLongFunction<ScriptText> make, long due) {
    }

    /** They leave an object that is new as it was, but for the result. */
    private static final Call[] ROUND = {
        new Call("insert(0, 0, 5)", x -> number(x.insert(0, 0, 5)), 1),
        new Call("insert(1, 0, 6)", x -> number(x.insert(1, 0, 6)), 1),
        new Call("describe(20, 1, 5, 6)", x -> number(x.describe(20, 1, 5, 6)), 1),
        new Call("describe(7, 12, 8, 9)", x -> number(x.describe(7, 12, 8, 9)), 1),
        new Call("normal(0, 0)", x -> x.normal(0, 0), 1),
        new Call("take(1)", x -> number(x.take(1)), 1),
        new Call("search(4)", x -> x.search(4), 1),
        new Call("compare(4)", x -> x.compare(4), 0),
        new Call("key(1, 1, 0)", x -> x.key(1, 1, 0), 6),
        new Call("breaks(0, 0)", x -> x.breaks(0, 0), 3),
        new Call("onPage(0, 1, 0)", x -> x.onPage(0, 1, 0), 0),
        new Call("describe(48, 0, 0, 0)", x -> number(x.describe(48, 0, 0, 0)), 0),
        new Call("describe(20, 3, 0, 0)", x -> number(x.describe(20, 3, 0, 0)), 1),
        new Call("describe(7, 13, 8, 0)", x -> number(x.describe(7, 13, 8, 0)), 1),
        new Call("erase(0, 0)", x -> number(x.erase(0, 0)), 1),
        new Call("erase(1, 0)", x -> number(x.erase(1, 0)), 1),
    };
    private static final Call REFUSED = new Call("insert(2, 0, 0)", x -> number(x.insert(2, 0, 0)), 0);

    /** Behind a round, these make texts 20 5 and 5 and the result 5 6 5. */
    private static final Call[] MADE = {
        new Call("describe(20, 1, 5, 6)", x -> number(x.describe(20, 1, 5, 6)), 1),
        new Call("insert(0, 0, 5)", x -> number(x.insert(0, 0, 5)), 1),
        new Call("insert(0, 0, 20)", x -> number(x.insert(0, 0, 20)), 1),
        new Call("insert(1, 0, 5)", x -> number(x.insert(1, 0, 5)), 1),
        new Call("normal(0, 0)", x -> x.normal(0, 0), 3),
    };
    private static final Call[] LAST = {
        new Call("describe(21, 1, 20, 20)", x -> number(x.describe(21, 1, 20, 20)), 1),
        new Call("describe(21, 1, 20, 21)", x -> number(x.describe(21, 1, 20, 21)), 0),
        new Call("insert(1, 1, 7)", x -> number(x.insert(1, 1, 7)), 1),
        new Call("insert(1, 2, 7)", x -> number(x.insert(1, 2, 7)), 0),
        new Call("erase(0, 1)", x -> number(x.erase(0, 1)), 1),
        new Call("erase(0, 2)", x -> number(x.erase(0, 2)), 0),
        new Call("normal(0, 1)", x -> x.normal(0, 1), 2),
        new Call("normal(0, 4)", x -> x.normal(0, 4), -1),
        new Call("isNormal(0, 0)", x -> number(x.isNormal(0, 0)), 0),
        new Call("isNormal(0, 1)", x -> number(x.isNormal(0, 1)), 1),
        new Call("cased(0, 1)", x -> x.cased(0, 1), 2),
        new Call("result(1)", x -> x.result(1), 6),
        new Call("result(3)", x -> x.result(3), -1),
        new Call("take(0)", x -> number(x.take(0)), 1),
        new Call("take(2)", x -> number(x.take(2)), 0),
        new Call("breaks(0, 1)", x -> x.breaks(0, 1), 7),
        new Call("level(0, 1, 1)", x -> x.level(0, 1, 1), 2),
        new Call("onPage(0, 1, 1)", x -> x.onPage(0, 1, 1), 1),
        new Call("key(0, 1, 1)", x -> x.key(0, 1, 1), 7),
        new Call("compare(4)", x -> x.compare(4), 1),
        new Call("search(4)", x -> x.search(4), 34),
    };

    private final Due due = new Due();
    private ScriptText x;
    private int calls;

    public static void main(String[] args) {
        CallsTest test = new CallsTest();
        test.due.sentence("An object is used for at most 512 calls after it has been made");
        test.rounds();
        test.eachCallAsTheLast();
        test.textsFilledAtTheEnd();
        test.descriptionsAlone();
        test.due.end("CallsTest");
    }

    private static long number(boolean answer) {
        return answer ? 1 : 0;
    }

    private void begin() {
        x = new ScriptText();
        calls = 0;
    }

    private void make(Call call) {
        calls++;
        due.is(call.name() + " as call " + calls, call.make().applyAsLong(x), call.due());
    }

    /** Makes whole rounds, and then calls that are refused, until so many have been made. */
    private void until(int count) {
        while (calls + ROUND.length <= count) {
            for (Call call : ROUND) {
                make(call);
            }
        }
        while (calls < count) {
            make(REFUSED);
        }
    }

    private void rounds() {
        begin();
        until(MOST);
        due.is("the calls made", calls, MOST);
    }

    private void eachCallAsTheLast() {
        for (Call last : LAST) {
            begin();
            until(MOST - 1 - MADE.length);
            for (Call call : MADE) {
                make(call);
            }
            make(last);
            due.is("the calls made", calls, MOST);
        }
    }

    /** The sixteenth character is in at call 511, and the seventeenth is refused. */
    private void textsFilledAtTheEnd() {
        begin();
        until(MOST - 17);
        for (int i = 0; i < 16; i++) {
            int at = i;
            make(new Call("insert(1, " + at + ", 3)", x -> number(x.insert(1, at, 3)), 1));
        }
        make(new Call("insert(1, 16, 3)", x -> number(x.insert(1, 16, 3)), 0));
        due.is("the calls made", calls, MOST);
    }

    private void descriptionsAlone() {
        begin();
        make(new Call("insert(0, 0, 7)", x -> number(x.insert(0, 0, 7)), 1));
        while (calls < MOST - 1) {
            int n = calls;
            make(new Call("describe", x -> number(x.describe(n % 48, 9, n % 100, n % 99)), 1));
        }
        // Character 7 was described for the last time as call 488, by 487.
        make(new Call("key(0, 1, 0)", x -> x.key(0, 1, 0), 87));
        due.is("the calls made", calls, MOST);
    }
}
