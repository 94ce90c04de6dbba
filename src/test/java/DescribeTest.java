import java.util.List;

/** Promise 2 (describe): what is described anew takes the place of what was, and of nothing else. */
public final class DescribeTest {
    public static void main(String[] args) {
        Due due = new Due();
        decompositions(due);
        classesAndExclusions(due);
        cases(due);
        kindsAndDirections(due);
        weightsAndExpansions(due);
        contractionsHaveAnOrder(due);
        whatIsSoAlreadyChangesNothing(due);
        due.end("DescribeTest");
    }

    private static void decompositions(Due due) {
        ScriptText x = new ScriptText();
        Given.text(x, 0, 9);
        Given.described(x, 9, 1, 1, 2);
        due.is("canonical", Given.normal(x, 0, 0), "2: 1 2");
        Given.described(x, 9, 2, 3, -1);
        due.is("compatible in its place, form 0", Given.normal(x, 0, 0), "1: 9");
        due.is("compatible in its place, form 2", Given.normal(x, 0, 2), "1: 3");
        Given.described(x, 9, 1, 4, -1);
        due.is("canonical again, form 0", Given.normal(x, 0, 0), "1: 4");
        due.is("canonical again, form 2", Given.normal(x, 0, 2), "1: 4");
        Given.described(x, 9, 3, 0, 0);
        due.is("none any more, form 2", Given.normal(x, 0, 2), "1: 9");
        due.yes("none, where there was none", x.describe(9, 3, 0, 0));
    }

    private static void classesAndExclusions(Due due) {
        ScriptText x = new ScriptText();
        Given.described(x, 3, 1, 1, 2);
        Given.text(x, 0, 1, 2);
        due.is("composed", Given.normal(x, 0, 1), "1: 3");
        Given.described(x, 3, 4, 1, 0);
        due.is("excluded", Given.normal(x, 0, 1), "2: 1 2");
        Given.described(x, 3, 4, 0, 0);
        due.is("not excluded", Given.normal(x, 0, 1), "1: 3");
        Given.described(x, 1, 0, 5, 0);
        Given.described(x, 2, 0, 4, 0);
        due.is("ordered", Given.normal(x, 0, 1), "2: 2 1");
        Given.described(x, 2, 0, 6, 0);
        due.is("with another class", Given.normal(x, 0, 1), "2: 1 2");
        Given.described(x, 1, 0, 0, 0);
        due.is("with class 0 again", Given.normal(x, 0, 1), "1: 3");
    }

    private static void cases(Due due) {
        ScriptText x = new ScriptText();
        Given.text(x, 0, 4, 9);
        Given.described(x, 4, 8, 4, 0);
        Given.described(x, 9, 5, 10, 0);
        Given.described(x, 9, 6, 11, 12);
        due.is("lower", Given.cased(x, 0, 0), "2: 4 10");
        due.is("upper", Given.cased(x, 0, 1), "3: 4 11 12");
        Given.described(x, 9, 5, 13, 0);
        Given.described(x, 9, 6, 14, -1);
        due.is("another lower", Given.cased(x, 0, 0), "2: 4 13");
        due.is("another upper", Given.cased(x, 0, 1), "2: 4 14");
        Given.described(x, 9, 7, 15, 0);
        due.is("final", Given.cased(x, 0, 0), "2: 4 15");
        Given.described(x, 9, 7, 16, 0);
        due.is("another final", Given.cased(x, 0, 0), "2: 4 16");
        Given.described(x, 9, 7, -1, 0);
        due.is("no final", Given.cased(x, 0, 0), "2: 4 13");
    }

    private static void kindsAndDirections(Due due) {
        ScriptText x = new ScriptText();
        Given.text(x, 0, 5, 9);
        Given.described(x, 9, 8, 2, 0);
        due.is("EXTEND", x.breaks(0, 0), 5);
        Given.described(x, 9, 8, 4, 0);
        due.is("LETTER", x.breaks(0, 0), 7);
        Given.described(x, 9, 14, 1, 0);
        due.is("RIGHT", x.level(0, 0, 1), 1);
        Given.described(x, 9, 14, 0, 0);
        due.is("LEFT", x.level(0, 0, 1), 0);
    }

    private static void weightsAndExpansions(Due due) {
        ScriptText x = new ScriptText();
        Given.text(x, 0, 9);
        Given.described(x, 9, 9, 50, 23);
        due.is("weights", x.key(0, 1, 0) + " " + x.key(0, 2, 0) + " " + x.key(0, 3, 0), "50 2 3");
        Given.described(x, 9, 9, 60, 45);
        due.is("other weights", x.key(0, 1, 0) + " " + x.key(0, 2, 0) + " " + x.key(0, 3, 0), "60 4 5");
        Given.described(x, 9, 10, 1, 2);
        due.is("expansion", Given.key(x, 0, 1), "2 3");
        Given.described(x, 9, 10, 9, 3);
        due.is("another expansion", Given.key(x, 0, 1), "60 4");
        Given.described(x, 9, 11, 0, 0);
        due.is("no expansion", Given.key(x, 0, 1), "60");
    }

    private static void contractionsHaveAnOrder(Due due) {
        ScriptText x = new ScriptText();
        Given.described(x, 1, 12, 2, 40);
        Given.text(x, 0, 1, 2, 2, 1);
        due.is("only one order", Given.key(x, 0, 1), "41 3 2");
        Given.described(x, 2, 13, 1, 0);
        due.is("the other order taken away", Given.key(x, 0, 1), "41 3 2");
        Given.described(x, 2, 12, 1, 41);
        due.is("both", Given.key(x, 0, 1), "41 42");
    }

    /** What Views.described() says, said again, with any numbers where an operand is not used. */
    private static void whatIsSoAlreadyChangesNothing(Due due) {
        int unused = Integer.MIN_VALUE;
        int[][] again = {
            {25, 0, 3, unused}, {0, 0, 0, unused}, {20, 1, 1, 2}, {30, 1, 6, -1}, {21, 2, 20, 5},
            {0, 3, unused, unused}, {25, 3, unused, unused}, {23, 4, 1, unused}, {25, 4, 0, unused},
            {25, 5, 8, unused}, {1, 5, 1, unused}, {25, 6, 12, 11}, {47, 6, 13, -1}, {1, 6, 1, -1},
            {25, 7, 17, unused}, {1, 7, -1, unused}, {25, 8, 4, unused}, {1, 8, 0, unused},
            {25, 9, 76, 88}, {47, 9, 0, 0}, {1, 9, 2, 11}, {25, 10, 17, 18}, {20, 11, unused, unused},
            {0, 11, unused, unused}, {25, 12, 26, 32}, {10, 12, 11, 30}, {26, 13, 25, unused},
            {25, 13, 0, unused}, {25, 14, 1, unused}, {0, 14, 0, unused},
        };
        List<Views.View> views = Views.all();
        for (Views.View view : views) {
            String before = view.read().apply(Views.described());
            for (int[] d : again) {
                for (int any : new int[] {0, 1, 5}) {
                    ScriptText x = Views.described();
                    Given.described(x, d[0], d[1], d[2] == unused ? any : d[2], d[3] == unused ? any : d[3]);
                    String call = view.name() + " behind another describe(" + d[0] + ", " + d[1] + ", ..)";
                    due.is(call, view.read().apply(x), before);
                }
            }
        }
    }
}
