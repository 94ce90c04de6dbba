/** Promise 2 (describe) and, for it, promise 16: what is refused changes nothing. */
public final class DescribeTest {
    private static final int FAR = Integer.MAX_VALUE;
    private static final int DEEP = Integer.MIN_VALUE;

    public static void main(String[] args) {
        Due due = new Due();
        edgesOfTheOperands(due);
        operandsNotUsedAreFree(due);
        wrongCharactersAndWhats(due);
        decompositionsLieBelow(due);
        oneTakesTheOthersPlace(due);
        fourAreTheMost(due);
        higherCharactersAreCountedToo(due);
        sixContractionsAreTheMost(due);
        contractionsHaveAnOrder(due);
        refusalsChangeNothing(due);
        due.end("DescribeTest");
    }

    private static void asked(Due due, ScriptText x, boolean want, int c, int what, int a, int b) {
        due.is("describe(" + c + ", " + what + ", " + a + ", " + b + ")", x.describe(c, what, a, b), want);
    }

    /** Each operand's least and greatest, and the numbers just outside. */
    private static void edgesOfTheOperands(Due due) {
        int[][] rangesOfA = {
            {0, 0, 9}, {4, 0, 1}, {5, 0, 47}, {6, 0, 47}, {7, -1, 47}, {8, 0, 7}, {9, 0, 99},
            {10, 0, 47}, {12, 0, 47}, {13, 0, 47}, {14, 0, 6}, {1, 0, 19}, {2, 0, 19},
        };
        for (int[] r : rangesOfA) {
            ScriptText x = new ScriptText();
            asked(due, x, true, 20, r[0], r[1], 0);
            asked(due, x, true, 20, r[0], r[2], 0);
            asked(due, x, false, 20, r[0], r[1] - 1, 0);
            asked(due, x, false, 20, r[0], r[2] + 1, 0);
            asked(due, x, false, 20, r[0], FAR, 0);
            asked(due, x, false, 20, r[0], DEEP, 0);
        }
        int[][] rangesOfB = {
            {1, -1, 19}, {2, -1, 19}, {6, -1, 47}, {9, 0, 99}, {10, 0, 47}, {12, 0, 47},
        };
        for (int[] r : rangesOfB) {
            ScriptText x = new ScriptText();
            asked(due, x, true, 20, r[0], 0, r[1]);
            asked(due, x, true, 20, r[0], 0, r[2]);
            asked(due, x, false, 20, r[0], 0, r[1] - 1);
            asked(due, x, false, 20, r[0], 0, r[2] + 1);
            asked(due, x, false, 20, r[0], 0, FAR);
            asked(due, x, false, 20, r[0], 0, DEEP);
        }
    }

    private static void operandsNotUsedAreFree(Due due) {
        ScriptText x = new ScriptText();
        int[] useNoB = {0, 4, 5, 7, 8, 13, 14};
        for (int what : useNoB) {
            asked(due, x, true, 20, what, 0, FAR);
            asked(due, x, true, 20, what, 0, DEEP);
        }
        asked(due, x, true, 20, 3, FAR, DEEP);
        asked(due, x, true, 20, 11, DEEP, FAR);
    }

    private static void wrongCharactersAndWhats(Due due) {
        ScriptText x = new ScriptText();
        for (int what = 0; what <= 14; what++) {
            asked(due, x, false, -1, what, 0, 0);
            asked(due, x, false, 48, what, 0, 0);
            asked(due, x, false, FAR, what, 0, 0);
            asked(due, x, false, DEEP, what, 0, 0);
            asked(due, x, true, 47, what, 0, 0);
        }
        asked(due, x, false, 3, -1, 0, 0);
        asked(due, x, false, 3, 15, 0, 0);
        asked(due, x, false, 3, FAR, 0, 0);
        asked(due, x, false, 3, DEEP, 0, 0);
    }

    private static void decompositionsLieBelow(Due due) {
        ScriptText x = new ScriptText();
        for (int what = 1; what <= 2; what++) {
            asked(due, x, false, 0, what, 0, -1);
            asked(due, x, false, 0, what, -1, -1);
            asked(due, x, true, 1, what, 0, 0);
            asked(due, x, false, 5, what, 5, -1);
            asked(due, x, false, 5, what, 4, 5);
            asked(due, x, false, 5, what, 6, 1);
            asked(due, x, false, 5, what, -1, 1);
            asked(due, x, true, 5, what, 4, 3);
        }
    }

    private static void oneTakesTheOthersPlace(Due due) {
        ScriptText x = new ScriptText();
        Given.text(x, 0, 9);
        Given.described(x, 9, 1, 1, 2);
        due.is("canonical", Given.normal(x, 0, 0), "2: 1 2");
        Given.described(x, 9, 2, 3, -1);
        due.is("compatible in its place, form 0", Given.normal(x, 0, 0), "1: 9");
        due.is("compatible in its place, form 2", Given.normal(x, 0, 2), "1: 3");
        Given.described(x, 9, 1, 4, -1);
        due.is("canonical again, form 0", Given.normal(x, 0, 0), "1: 4");
        due.is("canonical again, form 2", Given.normal(x, 0, 2), "1: 4");
        Given.described(x, 9, 3, 0, 0);
        due.is("none any more, form 2", Given.normal(x, 0, 2), "1: 9");
        due.yes("none, where there was none", x.describe(9, 3, 0, 0));
    }

    private static void fourAreTheMost(Due due) {
        for (int what = 1; what <= 2; what++) {
            ScriptText x = new ScriptText();
            asked(due, x, true, 10, what, 0, 1);
            asked(due, x, true, 11, what, 10, 2);
            asked(due, x, true, 12, 3 - what, 11, 3);
            asked(due, x, false, 13, what, 12, 4);
            asked(due, x, false, 13, 3 - what, 12, 4);
            asked(due, x, false, 13, what, 11, 10);
            asked(due, x, true, 13, what, 12, -1);
            asked(due, x, true, 14, what, 10, 10);
            Given.text(x, 0, 13, 14);
            due.is("four of each", Given.normal(x, 0, 2), "8: 0 1 2 3 0 1 0 1");
        }
    }

    /** Character 20 gives four by 10, so 10 may not give more than it does. */
    private static void higherCharactersAreCountedToo(Due due) {
        ScriptText x = new ScriptText();
        asked(due, x, true, 10, 1, 0, 1);
        asked(due, x, true, 20, 2, 10, 10);
        asked(due, x, true, 30, 2, 20, -1);
        asked(due, x, true, 5, 2, 2, -1);
        asked(due, x, false, 1, 1, 0, 0);
        asked(due, x, false, 0, 1, 0, 0);
        asked(due, x, true, 6, 1, 2, 3);
        asked(due, x, false, 10, 1, 6, 4);
        asked(due, x, false, 10, 2, 4, 6);
        asked(due, x, true, 10, 1, 6, -1);
        Given.text(x, 0, 30);
        due.is("form 2", Given.normal(x, 0, 2), "4: 2 3 2 3");
        asked(due, x, true, 20, 3, 0, 0);
        asked(due, x, true, 10, 1, 6, 4);
        asked(due, x, false, 20, 1, 10, 10);
    }

    private static void sixContractionsAreTheMost(Due due) {
        ScriptText x = new ScriptText();
        for (int i = 0; i < 6; i++) {
            asked(due, x, true, i, 12, 10 + i, 20 + i);
        }
        asked(due, x, false, 6, 12, 16, 26);
        asked(due, x, false, 0, 12, 11, 26);
        asked(due, x, true, 3, 12, 13, 33);
        asked(due, x, true, 5, 12, 15, 35);
        Given.text(x, 0, 0, 10, 3, 13, 5, 15, 6, 16);
        due.is("key 1 of six contractions", Given.key(x, 0, 1), "21 34 36 7 17");
        asked(due, x, true, 6, 13, 16, 0);
        asked(due, x, false, 6, 12, 16, 26);
        asked(due, x, true, 0, 13, 10, 0);
        due.is("key 1 without the first", Given.key(x, 0, 1), "1 11 34 36 7 17");
        asked(due, x, true, 6, 12, 16, 26);
        due.is("key 1 with another", Given.key(x, 0, 1), "1 11 34 36 27");
        asked(due, x, false, 0, 12, 10, 20);
        asked(due, x, true, 6, 13, 16, 0);
        due.is("key 1 with five", Given.key(x, 0, 1), "1 11 34 36 7 17");
    }

    private static void contractionsHaveAnOrder(Due due) {
        ScriptText x = new ScriptText();
        Given.described(x, 1, 12, 2, 40);
        Given.text(x, 0, 1, 2, 2, 1);
        due.is("only one order", Given.key(x, 0, 1), "41 3 2");
        Given.described(x, 2, 13, 1, 0);
        due.is("the other order taken away", Given.key(x, 0, 1), "41 3 2");
        Given.described(x, 2, 12, 1, 41);
        due.is("both", Given.key(x, 0, 1), "41 42");
    }

    private static void refusalsChangeNothing(Due due) {
        ScriptText x = new ScriptText();
        Given.text(x, 0, 20, 21, 1, 2);
        Given.described(x, 20, 1, 1, 2);
        Given.described(x, 21, 6, 3, 4);
        Given.described(x, 1, 0, 2, 0);
        Given.described(x, 2, 9, 7, 89);
        Given.described(x, 1, 10, 5, 6);
        x.normal(0, 0);
        String before = everything(x);
        asked(due, x, false, 20, 1, 5, 20);
        asked(due, x, false, 20, 2, 20, 5);
        asked(due, x, false, 21, 6, 5, 48);
        asked(due, x, false, 21, 6, 48, 5);
        asked(due, x, false, 21, 5, 48, 0);
        asked(due, x, false, 21, 7, 48, 0);
        asked(due, x, false, 21, 8, 8, 0);
        asked(due, x, false, 1, 0, 10, 0);
        asked(due, x, false, 1, 4, 2, 0);
        asked(due, x, false, 2, 9, 8, 100);
        asked(due, x, false, 2, 9, 100, 11);
        asked(due, x, false, 1, 10, 7, 48);
        asked(due, x, false, 1, 10, 48, 7);
        asked(due, x, false, 1, 12, 2, 48);
        asked(due, x, false, 1, 14, 7, 0);
        due.is("everything", everything(x), before);
    }

    private static String everything(ScriptText x) {
        StringBuilder all = new StringBuilder(Given.result(x));
        for (int l = 1; l <= 3; l++) {
            all.append(" | ").append(Given.key(x, 0, l));
        }
        all.append(" | ").append(x.breaks(0, 0)).append(" | ").append(x.breaks(0, 1));
        all.append(" | ").append(Given.levels(x, 0, 0)).append(" | ").append(Given.levels(x, 0, 1));
        // A copy in text 1 keeps the result, which the next calls change.
        x.take(1);
        for (int how = 0; how < 4; how++) {
            all.append(" | ").append(Given.normal(x, 0, how));
            all.append(" | ").append(Given.cased(x, 0, how));
        }
        x.normal(1, 0);
        return all.toString();
    }
}
