/** Promises 13, 14 and 15: sort keys, comparison and search. */
public final class SortTest {
    private static final int EXTEND = 2;
    private static final int PREPEND = 3;

    public static void main(String[] args) {
        Due due = new Due();
        ownWeights(due);
        contractions(due);
        expansions(due);
        keysComeOfFormZero(due);
        keysDecideInTurn(due);
        formsDecideLast(due);
        leastPlaceAndEnd(due);
        onlyAtClusters(due);
        partsAreTakenAlone(due);
        due.end("SortTest");
    }

    private static void keys(Due due, ScriptText x, String first, String second, String third) {
        due.is("key 1", Given.key(x, 0, 1), first);
        due.is("key 2", Given.key(x, 0, 2), second);
        due.is("key 3", Given.key(x, 0, 3), third);
    }

    private static void ownWeights(Due due) {
        ScriptText x = new ScriptText();
        Given.described(x, 3, 9, 99, 99);
        Given.described(x, 4, 9, 0, 50);
        Given.described(x, 5, 9, 7, 6);
        Given.described(x, 6, 9, 0, 0);
        Given.text(x, 0, 3, 4, 5, 6, 47);
        keys(due, x, "99 7 48", "9 5 1", "9 6 1");
        Given.text(x, 0);
        keys(due, x, "", "", "");
        Given.text(x, 0, 6);
        keys(due, x, "", "", "");
    }

    private static void contractions(Due due) {
        ScriptText x = new ScriptText();
        Given.described(x, 1, 12, 2, 30);
        Given.described(x, 30, 9, 80, 23);
        Given.described(x, 30, 10, 5, 6);
        Given.text(x, 0, 1, 2, 1, 1, 2, 2);
        keys(due, x, "80 2 80 3", "2 1 2 1", "3 1 3 1");
        Given.described(x, 2, 12, 1, 31);
        Given.text(x, 0, 1, 2, 1);
        due.is("the left one first", Given.key(x, 0, 1), "80 2");
        Given.described(x, 4, 12, 4, 0);
        Given.text(x, 0, 4, 4, 4);
        due.is("a character with itself", Given.key(x, 0, 1), "1 5");
        Given.described(x, 4, 12, 4, 4);
        due.is("standing for itself", Given.key(x, 0, 1), "5 5");
        Given.described(x, 1, 10, 40, 41);
        Given.text(x, 0, 1, 2, 1, 3);
        due.is("a contraction before an expansion", Given.key(x, 0, 1), "80 41 42 4");
        Given.described(x, 30, 12, 5, 6);
        Given.text(x, 0, 1, 2, 5);
        due.is("what it stands for is in no contraction", Given.key(x, 0, 1), "80 6");
    }

    private static void expansions(Due due) {
        ScriptText x = new ScriptText();
        Given.described(x, 1, 10, 2, 1);
        Given.described(x, 1, 9, 60, 34);
        Given.described(x, 2, 10, 7, 8);
        Given.text(x, 0, 1, 3);
        keys(due, x, "3 60 4", "1 3 1", "1 4 1");
        Given.described(x, 2, 12, 1, 40);
        due.is("an expansion is no contraction", Given.key(x, 0, 1), "3 60 4");
        Given.described(x, 2, 9, 0, 0);
        keys(due, x, "60 4", "3 1", "4 1");
        Given.described(x, 1, 11, 0, 0);
        keys(due, x, "60 4", "3 1", "4 1");
        Given.described(x, 1, 10, 0, 0);
        due.is("twice the same", Given.key(x, 0, 1), "1 1 4");
        Given.described(x, 1, 10, 47, 0);
        due.is("another in its place", Given.key(x, 0, 1), "48 1 4");
    }

    private static void keysComeOfFormZero(Due due) {
        ScriptText x = new ScriptText();
        Given.described(x, 1, 0, 1, 0);
        Given.described(x, 2, 0, 2, 0);
        Given.described(x, 20, 1, 0, 2);
        Given.described(x, 21, 2, 3, 4);
        Given.described(x, 0, 12, 1, 9);
        Given.text(x, 0, 20, 1, 21);
        due.is("decomposed canonically, ordered, contracted", Given.key(x, 0, 1), "10 3 22");
    }

    private static void compared(Due due, ScriptText x, int... wants) {
        for (int level = 1; level <= 4; level++) {
            due.is("compare(" + level + ")", x.compare(level), wants[level - 1]);
        }
    }

    private static void keysDecideInTurn(Due due) {
        ScriptText x = new ScriptText();
        Given.described(x, 10, 9, 50, 11);
        Given.described(x, 11, 9, 50, 12);
        Given.described(x, 12, 9, 50, 21);
        Given.described(x, 13, 9, 51, 11);
        Given.text(x, 0, 10);
        Given.text(x, 1, 11);
        compared(due, x, 0, 0, -1, -1);
        Given.text(x, 1, 12);
        compared(due, x, 0, -1, -1, -1);
        Given.text(x, 1, 13);
        compared(due, x, -1, -1, -1, -1);
        Given.text(x, 0, 12);
        compared(due, x, -1, -1, -1, -1);
        Given.text(x, 1, 11);
        compared(due, x, 0, 1, 1, 1);
        Given.text(x, 0, 11, 12);
        Given.text(x, 1, 12, 10);
        compared(due, x, 0, -1, -1, -1);
        Given.text(x, 0, 11, 10);
        Given.text(x, 1, 10, 11);
        compared(due, x, 0, 0, 1, 1);
    }

    private static void formsDecideLast(Due due) {
        ScriptText x = new ScriptText();
        Given.described(x, 6, 9, 0, 0);
        Given.described(x, 7, 9, 0, 0);
        Given.text(x, 0, 5, 6);
        Given.text(x, 1, 5, 7);
        compared(due, x, 0, 0, 0, -1);
        Given.text(x, 1, 5);
        compared(due, x, 0, 0, 0, 1);
        Given.text(x, 0);
        Given.text(x, 1, 7);
        compared(due, x, 0, 0, 0, -1);
        Given.described(x, 20, 1, 5, 6);
        Given.text(x, 0, 20);
        Given.text(x, 1, 5, 6);
        compared(due, x, 0, 0, 0, 0);
        Given.described(x, 21, 2, 5, 6);
        Given.described(x, 21, 9, 6, 11);
        Given.text(x, 0, 21);
        compared(due, x, 0, 0, 0, 1);
    }

    private static void searched(Due due, ScriptText x, int... wants) {
        for (int level = 1; level <= 4; level++) {
            due.is("search(" + level + ")", x.search(level), wants[level - 1]);
        }
    }

    private static void leastPlaceAndEnd(Due due) {
        ScriptText x = new ScriptText();
        Given.described(x, 10, 9, 50, 11);
        Given.described(x, 11, 9, 50, 12);
        Given.described(x, 12, 9, 50, 21);
        Given.described(x, 13, 9, 50, 11);
        Given.described(x, 14, 9, 0, 0);
        Given.text(x, 0, 1, 12, 11, 13, 10);
        Given.text(x, 1, 10);
        searched(due, x, 32 + 2, 2 * 32 + 3, 3 * 32 + 4, 4 * 32 + 5);
        Given.text(x, 0, 14, 10, 14, 10);
        searched(due, x, 2, 2, 2, 32 + 2);
        Given.text(x, 1, 10, 14);
        searched(due, x, 2, 2, 2, 32 + 3);
        Given.text(x, 1, 10, 10);
        searched(due, x, 4, 4, 4, -1);
        Given.text(x, 1, 3);
        searched(due, x, -1, -1, -1, -1);
        Given.text(x, 0, 3, 3, 3, 3, 3, 3, 3, 3, 3, 3, 3, 3, 3, 3, 3, 10);
        Given.text(x, 1, 10);
        searched(due, x, 15 * 32 + 16, 15 * 32 + 16, 15 * 32 + 16, 15 * 32 + 16);
    }

    private static void onlyAtClusters(Due due) {
        ScriptText x = new ScriptText();
        Given.described(x, 2, 8, EXTEND, 0);
        Given.described(x, 3, 8, PREPEND, 0);
        Given.described(x, 2, 9, 0, 30);
        Given.text(x, 0, 5, 2, 5, 3, 5, 5);
        Given.text(x, 1, 5);
        searched(due, x, 2, 2 * 32 + 3, 2 * 32 + 3, 2 * 32 + 3);
        Given.text(x, 0, 5, 2, 3, 5, 5);
        searched(due, x, 2, 4 * 32 + 5, 4 * 32 + 5, 4 * 32 + 5);
        Given.text(x, 1, 3);
        searched(due, x, -1, -1, -1, -1);
        Given.text(x, 1, 2);
        searched(due, x, 0, -1, -1, -1);
    }

    private static void partsAreTakenAlone(Due due) {
        ScriptText x = new ScriptText();
        Given.described(x, 5, 12, 6, 40);
        Given.text(x, 0, 5, 6, 6);
        Given.text(x, 1, 5);
        searched(due, x, 1, 1, 1, 1);
        Given.text(x, 1, 6);
        searched(due, x, 32 + 2, 32 + 2, 32 + 2, 32 + 2);
        Given.text(x, 1, 5, 6);
        searched(due, x, 2, 2, 2, 2);
        Given.text(x, 1, 40);
        searched(due, x, 2, 2, 2, -1);
        // Marks are put in order within the part alone.
        Given.described(x, 8, 0, 1, 0);
        Given.described(x, 9, 0, 2, 0);
        Given.text(x, 0, 9, 8);
        Given.text(x, 1, 8);
        searched(due, x, 32 + 2, 32 + 2, 32 + 2, 32 + 2);
        Given.text(x, 1, 8, 9);
        searched(due, x, 2, 2, 2, 2);
    }
}
