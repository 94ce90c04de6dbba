/** Promises 5 and 6: the normal forms. */
public final class NormalTest {
    public static void main(String[] args) {
        Due due = new Due();
        decompositionsGoAllTheWay(due);
        compatibleOnesStopTheCanonicalForm(due);
        marksAreOrdered(due);
        charactersAreComposed(due);
        marksBetweenStandInTheWay(due);
        excludedAndLeastNumber(due);
        composedCharactersOfAnotherClass(due);
        singleDecompositionsAreNotComposed(due);
        sixtyFourAreTheMost(due);
        textsThatAreNormal(due);
        due.end("NormalTest");
    }

    private static void decompositionsGoAllTheWay(Due due) {
        ScriptText x = new ScriptText();
        Given.described(x, 10, 1, 0, 1);
        Given.described(x, 20, 1, 2, 10);
        Given.described(x, 30, 1, 20, -1);
        Given.described(x, 40, 1, 30, 3);
        Given.text(x, 0, 40, 4, 30, 10);
        for (int form = 0; form <= 2; form += 2) {
            due.is("form " + form, Given.normal(x, 0, form), "10: 2 0 1 3 4 2 0 1 0 1");
        }
        Given.text(x, 1);
        due.is("of an empty text", Given.normal(x, 1, 0), "0: ");
    }

    private static void compatibleOnesStopTheCanonicalForm(Due due) {
        ScriptText x = new ScriptText();
        Given.described(x, 10, 2, 0, 1);
        Given.described(x, 20, 1, 10, 2);
        Given.described(x, 21, 2, 20, 3);
        Given.text(x, 0, 20, 21, 10);
        due.is("form 0", Given.normal(x, 0, 0), "4: 10 2 21 10");
        due.is("form 1", Given.normal(x, 0, 1), "3: 20 21 10");
        due.is("form 2", Given.normal(x, 0, 2), "9: 0 1 2 0 1 2 3 0 1");
        due.is("form 3: compatible ones are not composed", Given.normal(x, 0, 3), "9: 0 1 2 0 1 2 3 0 1");
    }

    private static void marksAreOrdered(Due due) {
        ScriptText x = new ScriptText();
        Given.described(x, 1, 0, 1, 0);
        Given.described(x, 2, 0, 5, 0);
        Given.described(x, 3, 0, 5, 0);
        Given.described(x, 4, 0, 9, 0);
        Given.text(x, 0, 4, 3, 2, 1, 0, 4, 2, 3, 1, 0, 0);
        due.is("like classes keep their order", Given.normal(x, 0, 0), "11: 1 3 2 4 0 1 2 3 4 0 0");
        Given.described(x, 20, 1, 0, 4);
        Given.text(x, 0, 20, 1);
        due.is("ordered behind decomposing", Given.normal(x, 0, 0), "3: 0 1 4");
        Given.text(x, 0, 1, 0);
        due.is("class 0 stays", Given.normal(x, 0, 0), "2: 1 0");
    }

    private static void charactersAreComposed(Due due) {
        ScriptText x = new ScriptText();
        Given.described(x, 1, 0, 1, 0);
        Given.described(x, 2, 0, 2, 0);
        Given.described(x, 10, 1, 0, 1);
        Given.described(x, 11, 1, 10, 2);
        Given.described(x, 12, 1, 0, 5);
        Given.described(x, 13, 1, 1, 2);
        Given.text(x, 0, 0, 2, 1);
        due.is("twice, when ordered", Given.normal(x, 0, 1), "1: 11");
        Given.text(x, 0, 0, 5, 0, 0, 5, 0, 1);
        due.is("neighbours of class 0", Given.normal(x, 0, 1), "4: 12 0 12 10");
        Given.text(x, 0, 1, 2, 0);
        due.is("nothing of class 0 before", Given.normal(x, 0, 1), "3: 1 2 0");
        Given.text(x, 0, 1, 0, 1);
        due.is("behind a mark at the beginning", Given.normal(x, 0, 1), "2: 1 10");
        Given.text(x, 0, 0, 3, 1);
        due.is("only with the last of class 0", Given.normal(x, 0, 1), "3: 0 3 1");
        Given.text(x, 0, 0, 3, 5);
        due.is("class 0 not over another", Given.normal(x, 0, 1), "3: 0 3 5");
    }

    private static void marksBetweenStandInTheWay(Due due) {
        ScriptText x = new ScriptText();
        for (int c = 1; c <= 3; c++) {
            Given.described(x, c, 0, c, 0);
        }
        Given.described(x, 4, 0, 2, 0);
        Given.described(x, 20, 1, 0, 2);
        Given.text(x, 0, 0, 1, 2);
        due.is("a lower class lets it pass", Given.normal(x, 0, 1), "2: 20 1");
        Given.text(x, 0, 0, 4, 2);
        due.is("the same class does not", Given.normal(x, 0, 1), "3: 0 4 2");
        Given.text(x, 0, 0, 2, 4);
        due.is("the one before does", Given.normal(x, 0, 1), "2: 20 4");
        Given.text(x, 0, 0, 2, 2, 3);
        due.is("it is taken out, the next one stays", Given.normal(x, 0, 1), "3: 20 2 3");
        Given.described(x, 21, 1, 0, 5);
        Given.text(x, 0, 0, 1, 5);
        due.is("class 0 passes no mark", Given.normal(x, 0, 1), "3: 0 1 5");
        Given.described(x, 22, 1, 20, 4);
        Given.text(x, 0, 0, 2, 4);
        due.is("what was taken out is not in the way", Given.normal(x, 0, 1), "1: 22");
    }

    private static void excludedAndLeastNumber(Due due) {
        ScriptText x = new ScriptText();
        Given.described(x, 22, 1, 0, 1);
        Given.described(x, 20, 1, 0, 1);
        Given.described(x, 21, 1, 0, 1);
        Given.text(x, 0, 0, 1);
        due.is("the least number", Given.normal(x, 0, 1), "1: 20");
        Given.described(x, 20, 4, 1, 0);
        due.is("the least that is not excluded", Given.normal(x, 0, 1), "1: 21");
        Given.described(x, 21, 2, 0, 1);
        due.is("the least canonical one", Given.normal(x, 0, 1), "1: 22");
        Given.described(x, 22, 4, 1, 0);
        due.is("none", Given.normal(x, 0, 1), "2: 0 1");
        Given.described(x, 20, 4, 0, 0);
        due.is("not excluded any more", Given.normal(x, 0, 1), "1: 20");
        Given.described(x, 20, 4, 1, 0);
        Given.described(x, 20, 1, 0, 1);
        due.is("excluded whatever its decomposition", Given.normal(x, 0, 1), "2: 0 1");
        Given.text(x, 0, 20);
        due.is("excluded ones decompose", Given.normal(x, 0, 1), "2: 0 1");
    }

    private static void composedCharactersOfAnotherClass(Due due) {
        ScriptText x = new ScriptText();
        Given.described(x, 1, 0, 1, 0);
        Given.described(x, 2, 0, 7, 0);
        Given.described(x, 20, 1, 0, 1);
        Given.described(x, 20, 0, 5, 0);
        Given.described(x, 21, 1, 3, 2);
        Given.described(x, 22, 1, 20, 2);
        Given.text(x, 0, 3, 0, 1, 2);
        due.is("the one before it is the last of class 0", Given.normal(x, 0, 1), "2: 21 20");
        Given.described(x, 20, 0, 7, 0);
        due.is("and it may stand in the way", Given.normal(x, 0, 1), "3: 3 20 2");
        Given.text(x, 0, 0, 1, 2);
        due.is("or none is left", Given.normal(x, 0, 1), "2: 20 2");
        Given.described(x, 20, 0, 0, 0);
        due.is("while it is of class 0", Given.normal(x, 0, 1), "1: 22");
    }

    private static void singleDecompositionsAreNotComposed(Due due) {
        ScriptText x = new ScriptText();
        Given.described(x, 20, 1, 5, -1);
        Given.text(x, 0, 20, 5);
        for (int form = 0; form < 4; form++) {
            due.is("form " + form, Given.normal(x, 0, form), "2: 5 5");
        }
    }

    private static void sixtyFourAreTheMost(Due due) {
        ScriptText x = new ScriptText();
        Given.described(x, 10, 1, 0, 1);
        Given.described(x, 20, 1, 10, 10);
        Given.text(x, 1, 20, 20, 20, 20, 20, 20, 20, 20, 20, 20, 20, 20, 20, 20, 20, 20);
        due.is("normal(1, 0)", x.normal(1, 0), 64);
        due.is("result(63)", x.result(63), 1);
        due.is("result(64)", x.result(64), -1);
        due.is("normal(1, 1)", x.normal(1, 1), 32);
        Given.described(x, 1, 0, 1, 0);
        Given.described(x, 0, 0, 2, 0);
        due.is("ordered through all", x.normal(1, 0), 64);
        due.is("result(31)", x.result(31), 1);
        due.is("result(32)", x.result(32), 0);
    }

    private static void textsThatAreNormal(Due due) {
        ScriptText x = new ScriptText();
        Given.described(x, 1, 0, 1, 0);
        Given.described(x, 2, 0, 2, 0);
        Given.described(x, 10, 1, 0, 1);
        Given.described(x, 11, 2, 3, 3);
        isNormal(due, x, "all");
        isNormal(due, x, "02", 0, 1);
        isNormal(due, x, "13", 10);
        isNormal(due, x, "01", 11);
        isNormal(due, x, "1", 10, 11);
        isNormal(due, x, "", 0, 2, 1);
        isNormal(due, x, "all", 0, 2);
        isNormal(due, x, "all", 1, 2, 0);
        isNormal(due, x, "all", 3, 3);
        Given.described(x, 12, 1, 4, -1);
        isNormal(due, x, "", 12);
    }

    private static void isNormal(Due due, ScriptText x, String forms, int... characters) {
        Given.text(x, 0, characters);
        Given.text(x, 1, 7);
        x.normal(1, 0);
        for (int form = 0; form < 4; form++) {
            boolean want = forms.equals("all") || forms.contains("" + form);
            due.is(java.util.Arrays.toString(characters) + " isNormal " + form, x.isNormal(0, form), want);
        }
        due.is("the result is left alone", Given.result(x), "7");
    }
}
