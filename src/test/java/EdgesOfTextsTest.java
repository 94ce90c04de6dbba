/** The boundary cases that promises 1 and 3 to 9 name, each with a test of its own. */
public final class EdgesOfTextsTest {
    private static final String SIXTEEN = "0 1 2 3 4 5 6 7 8 9 10 11 12 13 14 15";

    private final Due due = new Due();

    public static void main(String[] args) {
        EdgesOfTextsTest test = new EdgesOfTextsTest();
        test.bothTextsAreEmptyAtFirst();
        test.theResultIsEmptyAtFirst();
        test.insertWithNoSuchText();
        test.insertWithNoSuchPlace();
        test.insertWithNoSuchCharacter();
        test.insertIntoSixteen();
        test.insertAtTheEnd();
        test.eraseWithNoSuchText();
        test.eraseWithNoSuchCharacter();
        test.eraseAtTheEnd();
        test.eraseOfAnEmptyText();
        test.eraseOfSixteen();
        test.normalWithNoSuchText();
        test.normalWithNoSuchForm();
        test.normalOfAnEmptyText();
        test.normalOfSixteen();
        test.isNormalWithNoSuchTextOrForm();
        test.isNormalOfAnEmptyText();
        test.casedWithNoSuchText();
        test.casedWithNoSuchCase();
        test.casedOfAnEmptyText();
        test.casedOfSixteen();
        test.noSuchCharacterOfTheResult();
        test.takeWithNoSuchText();
        test.takeOfMoreThanSixteen();
        test.takeOfSixteen();
        test.takeOfAnEmptyResult();
        test.due.end("EdgesOfTextsTest");
    }

    /** Text 0 is 7 8, text 1 is 9, and the result is 5 6. */
    private static ScriptText three() {
        ScriptText x = new ScriptText();
        Given.text(x, 0, 5, 6);
        x.normal(0, 0);
        Given.text(x, 0, 7, 8);
        Given.text(x, 1, 9);
        return x;
    }

    private void threeAreAsBefore(ScriptText x) {
        due.is("the result", Given.result(x), "5 6");
        due.is("text 0", Given.plain(x, 0), "7 8");
        due.is("text 1", Given.plain(x, 1), "9");
    }

    private static ScriptText full(int text) {
        ScriptText x = new ScriptText();
        Given.text(x, text, 0, 1, 2, 3, 4, 5, 6, 7, 8, 9, 10, 11, 12, 13, 14, 15);
        return x;
    }

    /** Character 20 gives two and 21 gives four of each. */
    private static ScriptText withDecompositions() {
        ScriptText x = new ScriptText();
        Given.described(x, 20, 1, 1, 2);
        Given.described(x, 21, 1, 20, 20);
        return x;
    }

    // Promise 1, and the result of promise 5

    private void bothTextsAreEmptyAtFirst() {
        due.sentence("promise 1: both texts empty");
        for (int text = 0; text < 2; text++) {
            ScriptText x = new ScriptText();
            due.no("erase(text, 0)", x.erase(text, 0));
            due.no("insert(text, 1, 0)", x.insert(text, 1, 0));
            due.is("level(text, 0, 0)", x.level(text, 0, 0), -1);
            due.is("onPage(text, 0, 0)", x.onPage(text, 0, 0), -1);
            due.is("key(text, 1, 0)", x.key(text, 1, 0), 0);
            due.is("breaks(text, 0)", x.breaks(text, 0), 0);
            due.is("breaks(text, 1)", x.breaks(text, 1), 0);
            due.is("compare(4)", x.compare(4), 0);
            due.is("search(4)", x.search(4), 0);
            due.is("normal(text, 0)", x.normal(text, 0), 0);
            due.is("cased(text, 1)", x.cased(text, 1), 0);
        }
    }

    private void theResultIsEmptyAtFirst() {
        due.sentence("promise 5: the RESULT (at first empty)");
        ScriptText x = new ScriptText();
        for (int k : Outside.anyInt()) {
            due.is("result(" + k + ")", x.result(k), -1);
        }
        Given.text(x, 0, 1, 2);
        due.is("result(0) when a text has characters", x.result(0), -1);
        due.yes("take(0)", x.take(0));
        due.is("text 0 is empty", x.normal(0, 0), 0);
    }

    // Promise 3

    private void insertWithNoSuchText() {
        due.sentence("promise 3: false if there is no such text");
        ScriptText x = three();
        for (int text : Outside.of(0, 1)) {
            due.no("insert(" + text + ", 0, 0)", x.insert(text, 0, 0));
            due.no("insert(" + text + ", 1, 3)", x.insert(text, 1, 3));
        }
        threeAreAsBefore(x);
    }

    private void insertWithNoSuchPlace() {
        due.sentence("promise 3: false if there is no such place");
        ScriptText x = three();
        for (int at : Outside.of(0, 2)) {
            due.no("insert(0, " + at + ", 0)", x.insert(0, at, 0));
        }
        for (int at : Outside.of(0, 1)) {
            due.no("insert(1, " + at + ", 0)", x.insert(1, at, 0));
        }
        threeAreAsBefore(x);
    }

    private void insertWithNoSuchCharacter() {
        due.sentence("promise 3: false if there is no such character");
        ScriptText x = three();
        for (int c : Outside.of(0, 47)) {
            due.no("insert(0, 0, " + c + ")", x.insert(0, 0, c));
            due.no("insert(1, 1, " + c + ")", x.insert(1, 1, c));
        }
        threeAreAsBefore(x);
        due.yes("insert(0, 0, 47)", x.insert(0, 0, 47));
        due.yes("insert(0, 0, 0)", x.insert(0, 0, 0));
        due.is("text 0", Given.plain(x, 0), "0 47 7 8");
    }

    private void insertIntoSixteen() {
        due.sentence("promise 3: false if it has 16");
        for (int text = 0; text < 2; text++) {
            ScriptText x = full(text);
            for (int at = 0; at <= 17; at++) {
                due.no("insert at " + at, x.insert(text, at, 47));
            }
            due.is("the text", Given.plain(x, text), SIXTEEN);
            due.is("the other", Given.plain(x, 1 - text), "");
            due.yes("erase(text, 15)", x.erase(text, 15));
            due.no("insert behind its end", x.insert(text, 16, 47));
            due.yes("insert at its end", x.insert(text, 15, 47));
            due.is("the text", Given.plain(x, text), "0 1 2 3 4 5 6 7 8 9 10 11 12 13 14 47");
        }
    }

    private void insertAtTheEnd() {
        due.sentence("promise 3: a place at the end");
        ScriptText x = new ScriptText();
        due.yes("insert(0, 0, 5)", x.insert(0, 0, 5));
        due.yes("insert(0, 1, 6)", x.insert(0, 1, 6));
        due.yes("insert(0, 2, 7)", x.insert(0, 2, 7));
        due.no("insert(0, 4, 8)", x.insert(0, 4, 8));
        due.yes("insert(0, 0, 4)", x.insert(0, 0, 4));
        due.is("text 0", Given.plain(x, 0), "4 5 6 7");
        due.is("text 1", Given.plain(x, 1), "");
    }

    // Promise 4

    private void eraseWithNoSuchText() {
        due.sentence("promise 4: false if there is none (no such text)");
        ScriptText x = three();
        for (int text : Outside.of(0, 1)) {
            due.no("erase(" + text + ", 0)", x.erase(text, 0));
            due.no("erase(" + text + ", 1)", x.erase(text, 1));
        }
        threeAreAsBefore(x);
    }

    private void eraseWithNoSuchCharacter() {
        due.sentence("promise 4: false if there is none (no such place)");
        ScriptText x = three();
        for (int at : Outside.of(0, 1)) {
            due.no("erase(0, " + at + ")", x.erase(0, at));
        }
        for (int at : Outside.of(0, 0)) {
            due.no("erase(1, " + at + ")", x.erase(1, at));
        }
        threeAreAsBefore(x);
    }

    private void eraseAtTheEnd() {
        due.sentence("promise 4: false if there is none (the place at the end)");
        ScriptText x = three();
        due.no("erase(0, 2)", x.erase(0, 2));
        due.yes("erase(0, 1)", x.erase(0, 1));
        due.no("erase(0, 1)", x.erase(0, 1));
        due.is("text 0", Given.plain(x, 0), "7");
    }

    private void eraseOfAnEmptyText() {
        due.sentence("promise 4: false if there is none (nothing there to take out)");
        ScriptText x = three();
        due.yes("erase(1, 0)", x.erase(1, 0));
        due.no("erase(1, 0) again", x.erase(1, 0));
        due.is("text 1", Given.plain(x, 1), "");
        due.is("text 0", Given.plain(x, 0), "7 8");
        due.yes("insert(1, 0, 3)", x.insert(1, 0, 3));
        due.is("text 1", Given.plain(x, 1), "3");
    }

    private void eraseOfSixteen() {
        due.sentence("promise 4: the first and the last of 16");
        for (int text = 0; text < 2; text++) {
            ScriptText x = full(text);
            due.no("erase(text, 16)", x.erase(text, 16));
            due.yes("erase(text, 15)", x.erase(text, 15));
            due.yes("erase(text, 0)", x.erase(text, 0));
            due.is("the text", Given.plain(x, text), "1 2 3 4 5 6 7 8 9 10 11 12 13 14");
            due.is("the other", Given.plain(x, 1 - text), "");
        }
    }

    // Promises 5 and 6

    private void normalWithNoSuchText() {
        due.sentence("promise 5: -1, and the result stays, if there is no such text");
        ScriptText x = three();
        for (int text : Outside.of(0, 1)) {
            for (int form = 0; form < 4; form++) {
                due.is("normal(" + text + ", " + form + ")", x.normal(text, form), -1);
            }
        }
        threeAreAsBefore(x);
    }

    private void normalWithNoSuchForm() {
        due.sentence("promise 5: -1, and the result stays, if there is no such form");
        ScriptText x = three();
        for (int form : Outside.of(0, 3)) {
            due.is("normal(0, " + form + ")", x.normal(0, form), -1);
            due.is("normal(1, " + form + ")", x.normal(1, form), -1);
        }
        threeAreAsBefore(x);
    }

    private void normalOfAnEmptyText() {
        due.sentence("promise 5: the normal form of an empty text becomes the result");
        for (int form = 0; form < 4; form++) {
            for (int text = 0; text < 2; text++) {
                ScriptText x = three();
                Given.text(x, text);
                due.is("the result before", x.result(0), 5);
                due.is("normal(text, " + form + ")", x.normal(text, form), 0);
                due.is("result(0)", x.result(0), -1);
                due.is("result(1)", x.result(1), -1);
            }
        }
    }

    private void normalOfSixteen() {
        due.sentence("promise 5: a text of 16, whose form may have 64");
        for (int text = 0; text < 2; text++) {
            ScriptText x = full(text);
            for (int form = 0; form < 4; form++) {
                due.is("form " + form, Given.normal(x, text, form), "16: " + SIXTEEN);
            }
            ScriptText y = withDecompositions();
            Given.text(y, text, 21, 21, 21, 21, 21, 21, 21, 21, 21, 21, 21, 21, 21, 21, 21, 21);
            String pairs = "1 2 ".repeat(32).trim();
            due.is("form 0", Given.normal(y, text, 0), "64: " + pairs);
            due.is("form 3", Given.normal(y, text, 3), "32: " + "20 ".repeat(32).trim());
        }
    }

    private void isNormalWithNoSuchTextOrForm() {
        due.sentence("promise 6: false if there is no such text or form");
        ScriptText x = three();
        for (int text : Outside.of(0, 1)) {
            for (int form = 0; form < 4; form++) {
                due.no("isNormal(" + text + ", " + form + ")", x.isNormal(text, form));
            }
        }
        for (int form : Outside.of(0, 3)) {
            due.no("isNormal(0, " + form + ")", x.isNormal(0, form));
            due.no("isNormal(1, " + form + ")", x.isNormal(1, form));
        }
        threeAreAsBefore(x);
    }

    private void isNormalOfAnEmptyText() {
        due.sentence("promise 6: whether an empty text is its own normal form");
        for (int text = 0; text < 2; text++) {
            ScriptText x = three();
            Given.text(x, text);
            for (int form = 0; form < 4; form++) {
                due.yes("isNormal(text, " + form + ")", x.isNormal(text, form));
            }
            due.is("the result", Given.result(x), "5 6");
        }
    }

    // Promise 7

    private void casedWithNoSuchText() {
        due.sentence("promise 7: -1, and the result stays, if there is no such text");
        ScriptText x = three();
        for (int text : Outside.of(0, 1)) {
            for (int how = 0; how < 4; how++) {
                due.is("cased(" + text + ", " + how + ")", x.cased(text, how), -1);
            }
        }
        threeAreAsBefore(x);
    }

    private void casedWithNoSuchCase() {
        due.sentence("promise 7: -1, and the result stays, if there is no such case");
        ScriptText x = three();
        for (int how : Outside.of(0, 3)) {
            due.is("cased(0, " + how + ")", x.cased(0, how), -1);
            due.is("cased(1, " + how + ")", x.cased(1, how), -1);
        }
        threeAreAsBefore(x);
    }

    private void casedOfAnEmptyText() {
        due.sentence("promise 7: an empty text in any case becomes the result");
        for (int how = 0; how < 4; how++) {
            for (int text = 0; text < 2; text++) {
                ScriptText x = three();
                Given.text(x, text);
                due.is("the result before", x.result(0), 5);
                due.is("cased(text, " + how + ")", x.cased(text, how), 0);
                due.is("result(0)", x.result(0), -1);
                due.is("result(1)", x.result(1), -1);
            }
        }
    }

    private void casedOfSixteen() {
        due.sentence("promise 7: a text of 16, whose upper case may have 32");
        for (int text = 0; text < 2; text++) {
            ScriptText x = full(text);
            for (int how = 0; how < 4; how++) {
                due.is("case " + how, Given.cased(x, text, how), "16: " + SIXTEEN);
            }
            ScriptText y = new ScriptText();
            Given.described(y, 20, 6, 1, 2);
            Given.described(y, 20, 8, 4, 0);
            Given.text(y, text, 20, 20, 20, 20, 20, 20, 20, 20, 20, 20, 20, 20, 20, 20, 20, 20);
            String pairs = "1 2 ".repeat(16).trim();
            due.is("upper", Given.cased(y, text, 1), "32: " + pairs);
            due.is("title", Given.cased(y, text, 2), "17: 1 2 " + "20 ".repeat(15).trim());
            due.is("folded", Given.cased(y, text, 3), "32: " + pairs);
        }
    }

    // Promises 8 and 9

    private void noSuchCharacterOfTheResult() {
        due.sentence("promise 8: -1 if there is none");
        ScriptText x = three();
        for (int k : Outside.of(0, 1)) {
            due.is("result(" + k + ")", x.result(k), -1);
        }
        due.is("result(0)", x.result(0), 5);
        due.is("result(1)", x.result(1), 6);
        x.normal(1, 0);
        due.is("result(1) of a shorter one", x.result(1), -1);
        ScriptText y = withDecompositions();
        Given.text(y, 1, 21, 21, 21, 21, 21, 21, 21, 21, 21, 21, 21, 21, 21, 21, 21, 21);
        y.normal(1, 0);
        due.is("result(63)", y.result(63), 2);
        for (int k : Outside.of(0, 63)) {
            due.is("result(" + k + ") of 64", y.result(k), -1);
        }
    }

    private void takeWithNoSuchText() {
        due.sentence("promise 9: false, and nothing changes, if there is no such text");
        ScriptText x = three();
        for (int text : Outside.of(0, 1)) {
            due.no("take(" + text + ")", x.take(text));
        }
        threeAreAsBefore(x);
    }

    private void takeOfMoreThanSixteen() {
        due.sentence("promise 9: false, and nothing changes, if the result is longer than 16");
        for (int text = 0; text < 2; text++) {
            for (int pairs = 0; pairs <= 16; pairs++) {
                ScriptText x = withDecompositions();
                Given.text(x, 1 - text, 9);
                for (int i = 0; i < 16; i++) {
                    x.insert(text, i, i < pairs ? 20 : 5);
                }
                due.is("the result's length", x.normal(text, 0), 16 + pairs);
                due.is("take of " + (16 + pairs), x.take(1 - text), pairs == 0);
                due.is("the last of the result", x.result(15 + pairs), pairs == 16 ? 2 : 5);
                due.is("the other's length", x.cased(1 - text, 0), pairs == 0 ? 16 : 1);
                due.is("its first", x.result(0), pairs == 0 ? 5 : 9);
                due.is("the length of the text itself", x.cased(text, 0), 16);
            }
        }
        ScriptText y = withDecompositions();
        Given.text(y, 0, 21, 21, 21, 21, 21, 21, 21, 21, 21, 21, 21, 21, 21, 21, 21, 21);
        due.is("the greatest length", y.normal(0, 0), 64);
        due.no("take(1)", y.take(1));
        due.no("take(0)", y.take(0));
        due.is("text 1's length", y.normal(1, 0), 0);
        due.is("text 0's length", y.cased(0, 0), 16);
    }

    private void takeOfSixteen() {
        due.sentence("promise 9: a result of 16 in place of what the text was");
        for (int text = 0; text < 2; text++) {
            ScriptText x = full(text);
            Given.text(x, 1 - text, 9, 9, 9);
            x.normal(text, 0);
            due.yes("take(1 - text)", x.take(1 - text));
            due.is("the other", Given.plain(x, 1 - text), SIXTEEN);
            due.is("the text", Given.plain(x, text), SIXTEEN);
            due.no("insert of a seventeenth", x.insert(1 - text, 0, 0));
            due.yes("take into itself", x.take(text));
            due.is("the text", Given.plain(x, text), SIXTEEN);
        }
    }

    private void takeOfAnEmptyResult() {
        due.sentence("promise 9: an empty result in place of what the text was");
        for (int text = 0; text < 2; text++) {
            ScriptText x = full(text);
            due.is("normal of the empty one", x.normal(1 - text, 0), 0);
            due.yes("take(text)", x.take(text));
            due.no("erase(text, 0)", x.erase(text, 0));
            due.is("its length", x.normal(text, 0), 0);
            due.yes("insert(text, 0, 3)", x.insert(text, 0, 3));
            due.is("the text", Given.plain(x, text), "3");
        }
    }
}
