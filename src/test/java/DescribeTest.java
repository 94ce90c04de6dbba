/** Promise 2 (describe): what is described anew takes the place of what was. */
public final class DescribeTest {
    public static void main(String[] args) {
        Due due = new Due();
        decompositions(due);
        classesAndExclusions(due);
        cases(due);
        kindsAndDirections(due);
        weightsAndExpansions(due);
        contractionsHaveAnOrder(due);
        due.end("DescribeTest");
    }

    private static void decompositions(Due due) {
        ScriptText x = new ScriptText();
        Given.text(x, 0, 9);
        Given.described(x, 9, 1, 1, 2);
        due.is("canonical", Given.normal(x, 0, 0), "2: 1 2");
        Given.described(x, 9, 2, 3, -1);
        due.is("compatible in its place, form 0", Given.normal(x, 0, 0), "1: 9");
        due.is("compatible in its place, form 2", Given.normal(x, 0, 2), "1: 3");
        Given.described(x, 9, 1, 4, -1);
        due.is("canonical again, form 0", Given.normal(x, 0, 0), "1: 4");
        due.is("canonical again, form 2", Given.normal(x, 0, 2), "1: 4");
        Given.described(x, 9, 3, 0, 0);
        due.is("none any more, form 2", Given.normal(x, 0, 2), "1: 9");
        due.yes("none, where there was none", x.describe(9, 3, 0, 0));
    }

    private static void classesAndExclusions(Due due) {
        ScriptText x = new ScriptText();
        Given.described(x, 3, 1, 1, 2);
        Given.text(x, 0, 1, 2);
        due.is("composed", Given.normal(x, 0, 1), "1: 3");
        Given.described(x, 3, 4, 1, 0);
        due.is("excluded", Given.normal(x, 0, 1), "2: 1 2");
        Given.described(x, 3, 4, 0, 0);
        due.is("not excluded", Given.normal(x, 0, 1), "1: 3");
        Given.described(x, 1, 0, 5, 0);
        Given.described(x, 2, 0, 4, 0);
        due.is("ordered", Given.normal(x, 0, 1), "2: 2 1");
        Given.described(x, 2, 0, 6, 0);
        due.is("with another class", Given.normal(x, 0, 1), "2: 1 2");
        Given.described(x, 1, 0, 0, 0);
        due.is("with class 0 again", Given.normal(x, 0, 1), "1: 3");
    }

    private static void cases(Due due) {
        ScriptText x = new ScriptText();
        Given.text(x, 0, 4, 9);
        Given.described(x, 4, 8, 4, 0);
        Given.described(x, 9, 5, 10, 0);
        Given.described(x, 9, 6, 11, 12);
        due.is("lower", Given.cased(x, 0, 0), "2: 4 10");
        due.is("upper", Given.cased(x, 0, 1), "3: 4 11 12");
        Given.described(x, 9, 5, 13, 0);
        Given.described(x, 9, 6, 14, -1);
        due.is("another lower", Given.cased(x, 0, 0), "2: 4 13");
        due.is("another upper", Given.cased(x, 0, 1), "2: 4 14");
        Given.described(x, 9, 7, 15, 0);
        due.is("final", Given.cased(x, 0, 0), "2: 4 15");
        Given.described(x, 9, 7, 16, 0);
        due.is("another final", Given.cased(x, 0, 0), "2: 4 16");
        Given.described(x, 9, 7, -1, 0);
        due.is("no final", Given.cased(x, 0, 0), "2: 4 13");
    }

    private static void kindsAndDirections(Due due) {
        ScriptText x = new ScriptText();
        Given.text(x, 0, 5, 9);
        Given.described(x, 9, 8, 2, 0);
        due.is("EXTEND", x.breaks(0, 0), 5);
        Given.described(x, 9, 8, 4, 0);
        due.is("LETTER", x.breaks(0, 0), 7);
        Given.described(x, 9, 14, 1, 0);
        due.is("RIGHT", x.level(0, 0, 1), 1);
        Given.described(x, 9, 14, 0, 0);
        due.is("LEFT", x.level(0, 0, 1), 0);
    }

    private static void weightsAndExpansions(Due due) {
        ScriptText x = new ScriptText();
        Given.text(x, 0, 9);
        Given.described(x, 9, 9, 50, 23);
        due.is("weights", x.key(0, 1, 0) + " " + x.key(0, 2, 0) + " " + x.key(0, 3, 0), "50 2 3");
        Given.described(x, 9, 9, 60, 45);
        due.is("other weights", x.key(0, 1, 0) + " " + x.key(0, 2, 0) + " " + x.key(0, 3, 0), "60 4 5");
        Given.described(x, 9, 10, 1, 2);
        due.is("expansion", Given.key(x, 0, 1), "2 3");
        Given.described(x, 9, 10, 9, 3);
        due.is("another expansion", Given.key(x, 0, 1), "60 4");
        Given.described(x, 9, 11, 0, 0);
        due.is("no expansion", Given.key(x, 0, 1), "60");
    }

    private static void contractionsHaveAnOrder(Due due) {
        ScriptText x = new ScriptText();
        Given.described(x, 1, 12, 2, 40);
        Given.text(x, 0, 1, 2, 2, 1);
        due.is("only one order", Given.key(x, 0, 1), "41 3 2");
        Given.described(x, 2, 13, 1, 0);
        due.is("the other order taken away", Given.key(x, 0, 1), "41 3 2");
        Given.described(x, 2, 12, 1, 41);
        due.is("both", Given.key(x, 0, 1), "41 42");
    }
}
