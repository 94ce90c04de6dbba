/** Promises 3, 4, 8 and 9: the texts and the result. */
public final class TextTest {
    private static final int FAR = Integer.MAX_VALUE;
    private static final int DEEP = Integer.MIN_VALUE;

    public static void main(String[] args) {
        Due due = new Due();
        charactersGoInAtAnyPlace(due);
        sixteenAreTheMost(due);
        wrongInsertsChangeNothing(due);
        charactersGoOut(due);
        wrongErasesChangeNothing(due);
        resultIsReadByPlace(due);
        resultIsTaken(due);
        longResultsAreNotTaken(due);
        due.end("TextTest");
    }

    private static void charactersGoInAtAnyPlace(Due due) {
        ScriptText x = new ScriptText();
        due.yes("insert(0, 0, 3)", x.insert(0, 0, 3));
        due.yes("insert(0, 0, 1)", x.insert(0, 0, 1));
        due.yes("insert(0, 1, 2)", x.insert(0, 1, 2));
        due.yes("insert(0, 3, 47)", x.insert(0, 3, 47));
        due.yes("insert(1, 0, 0)", x.insert(1, 0, 0));
        due.is("text 0", Given.plain(x, 0), "1 2 3 47");
        due.is("text 1", Given.plain(x, 1), "0");
    }

    private static void sixteenAreTheMost(Due due) {
        for (int text = 0; text < 2; text++) {
            ScriptText x = new ScriptText();
            for (int i = 0; i < 16; i++) {
                due.yes("insert " + i, x.insert(text, 0, 15 - i));
            }
            due.no("insert of one more", x.insert(text, 0, 20));
            due.no("insert of one more at the end", x.insert(text, 16, 20));
            due.is("a full text", Given.plain(x, text), "0 1 2 3 4 5 6 7 8 9 10 11 12 13 14 15");
            due.is("the other text", Given.plain(x, 1 - text), "");
            due.yes("erase of the last", x.erase(text, 15));
            due.yes("insert into the room made", x.insert(text, 15, 21));
            due.is("full again", Given.plain(x, text), "0 1 2 3 4 5 6 7 8 9 10 11 12 13 14 21");
        }
    }

    private static void wrongInsertsChangeNothing(Due due) {
        ScriptText x = new ScriptText();
        Given.text(x, 0, 7, 8);
        Given.text(x, 1, 9);
        int[][] wrong = {
            {-1, 0, 0}, {2, 0, 0}, {FAR, 0, 0}, {DEEP, 0, 0},
            {0, -1, 0}, {0, 3, 0}, {0, FAR, 0}, {0, DEEP, 0},
            {1, 2, 0}, {0, 0, -1}, {0, 0, 48}, {0, 0, FAR}, {0, 0, DEEP},
        };
        for (int[] w : wrong) {
            due.no("insert(" + w[0] + ", " + w[1] + ", " + w[2] + ")", x.insert(w[0], w[1], w[2]));
        }
        due.is("text 0", Given.plain(x, 0), "7 8");
        due.is("text 1", Given.plain(x, 1), "9");
    }

    private static void charactersGoOut(Due due) {
        ScriptText x = new ScriptText();
        Given.text(x, 0, 1, 2, 3, 4);
        Given.text(x, 1, 5, 6);
        due.yes("erase(0, 1)", x.erase(0, 1));
        due.is("without the second", Given.plain(x, 0), "1 3 4");
        due.yes("erase(0, 2)", x.erase(0, 2));
        due.is("without the last", Given.plain(x, 0), "1 3");
        due.yes("erase(0, 0)", x.erase(0, 0));
        due.is("without the first", Given.plain(x, 0), "3");
        due.yes("erase(0, 0)", x.erase(0, 0));
        due.is("empty", Given.plain(x, 0), "");
        due.is("text 1", Given.plain(x, 1), "5 6");
    }

    private static void wrongErasesChangeNothing(Due due) {
        ScriptText x = new ScriptText();
        Given.text(x, 0, 7, 8);
        Given.text(x, 1, 9);
        int[][] wrong = {
            {-1, 0}, {2, 0}, {FAR, 0}, {DEEP, 0}, {0, -1}, {0, 2}, {0, FAR}, {0, DEEP}, {1, 1},
        };
        for (int[] w : wrong) {
            due.no("erase(" + w[0] + ", " + w[1] + ")", x.erase(w[0], w[1]));
        }
        due.is("text 0", Given.plain(x, 0), "7 8");
        due.is("text 1", Given.plain(x, 1), "9");
    }

    private static void resultIsReadByPlace(Due due) {
        ScriptText x = new ScriptText();
        Given.text(x, 0, 11, 12);
        due.is("result before any was made", x.result(0), -1);
        due.is("normal(0, 0)", x.normal(0, 0), 2);
        due.is("result(0)", x.result(0), 11);
        due.is("result(1)", x.result(1), 12);
        due.is("result(2)", x.result(2), -1);
        due.is("result(-1)", x.result(-1), -1);
        due.is("result(FAR)", x.result(FAR), -1);
        due.is("result(DEEP)", x.result(DEEP), -1);
        Given.text(x, 0, 13);
        due.is("the result stays when the text changes", x.result(1), 12);
        due.is("normal(0, 0)", x.normal(0, 0), 1);
        due.is("a shorter result has no second", x.result(1), -1);
    }

    private static void resultIsTaken(Due due) {
        ScriptText x = new ScriptText();
        Given.text(x, 0, 1, 2, 3);
        Given.text(x, 1, 4);
        x.normal(0, 0);
        due.yes("take(1)", x.take(1));
        due.is("the result stays", Given.result(x), "1 2 3");
        due.is("text 1", Given.plain(x, 1), "1 2 3");
        due.is("text 0", Given.plain(x, 0), "1 2 3");
        Given.text(x, 0);
        x.cased(0, 0);
        due.yes("take(1) of an empty result", x.take(1));
        due.is("text 1", Given.plain(x, 1), "");
        Given.text(x, 1, 5);
        x.normal(1, 0);
        due.no("take(2)", x.take(2));
        due.no("take(-1)", x.take(-1));
        due.no("take(FAR)", x.take(FAR));
        due.no("take(DEEP)", x.take(DEEP));
        due.is("the result stays", Given.result(x), "5");
        due.is("text 0", Given.plain(x, 0), "");
    }

    private static void longResultsAreNotTaken(Due due) {
        ScriptText x = new ScriptText();
        Given.text(x, 0, 5, 9, 9, 9, 9, 9, 9, 9, 9, 9, 9, 9, 9, 9, 9);
        Given.described(x, 5, 1, 3, 4);
        due.is("a result of 16", x.normal(0, 0), 16);
        due.yes("take(1)", x.take(1));
        due.is("text 1 has 16", x.normal(1, 0), 16);
        due.no("insert into it", x.insert(1, 0, 0));
        Given.text(x, 1, 8);
        Given.described(x, 4, 1, 1, 2);
        due.is("a result of 17", x.normal(0, 0), 17);
        due.no("take(1)", x.take(1));
        due.is("result(16)", x.result(16), 9);
        due.is("text 1", Given.plain(x, 1), "8");
    }
}
