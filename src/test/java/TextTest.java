/** Promises 3, 4, 8 and 9: the texts and the result. */
public final class TextTest {
    public static void main(String[] args) {
        Due due = new Due();
        charactersGoInAtAnyPlace(due);
        charactersGoOut(due);
        resultIsReadByPlace(due);
        resultIsTaken(due);
        due.end("TextTest");
    }

    private static void charactersGoInAtAnyPlace(Due due) {
        ScriptText x = new ScriptText();
        due.yes("insert(0, 0, 3)", x.insert(0, 0, 3));
        due.yes("insert(0, 0, 1)", x.insert(0, 0, 1));
        due.yes("insert(0, 1, 2)", x.insert(0, 1, 2));
        due.yes("insert(0, 3, 47)", x.insert(0, 3, 47));
        due.yes("insert(1, 0, 0)", x.insert(1, 0, 0));
        due.is("text 0", Given.plain(x, 0), "1 2 3 47");
        due.is("text 1", Given.plain(x, 1), "0");
    }

    private static void charactersGoOut(Due due) {
        ScriptText x = new ScriptText();
        Given.text(x, 0, 1, 2, 3, 4);
        Given.text(x, 1, 5, 6);
        due.yes("erase(0, 1)", x.erase(0, 1));
        due.is("without the second", Given.plain(x, 0), "1 3 4");
        due.yes("erase(0, 2)", x.erase(0, 2));
        due.is("without the last", Given.plain(x, 0), "1 3");
        due.yes("erase(0, 0)", x.erase(0, 0));
        due.is("without the first", Given.plain(x, 0), "3");
        due.yes("erase(0, 0)", x.erase(0, 0));
        due.is("empty", Given.plain(x, 0), "");
        due.is("text 1", Given.plain(x, 1), "5 6");
    }

    private static void resultIsReadByPlace(Due due) {
        ScriptText x = new ScriptText();
        Given.text(x, 0, 11, 12);
        due.is("result before any was made", x.result(0), -1);
        due.is("normal(0, 0)", x.normal(0, 0), 2);
        due.is("result(0)", x.result(0), 11);
        due.is("result(1)", x.result(1), 12);
        due.is("result(2)", x.result(2), -1);
        Given.text(x, 0, 13);
        due.is("the result stays when the text changes", x.result(1), 12);
        due.is("normal(0, 0)", x.normal(0, 0), 1);
        due.is("a shorter result has no second", x.result(1), -1);
    }

    private static void resultIsTaken(Due due) {
        ScriptText x = new ScriptText();
        Given.text(x, 0, 1, 2, 3);
        Given.text(x, 1, 4);
        x.normal(0, 0);
        due.yes("take(1)", x.take(1));
        due.is("the result stays", Given.result(x), "1 2 3");
        due.is("text 1", Given.plain(x, 1), "1 2 3");
        due.is("text 0", Given.plain(x, 0), "1 2 3");
    }
}
