/** The boundary cases that promises 10 to 15 name, each with a test of its own. */
public final class EdgesOfAnswersTest {
    private static final int EXTEND = 2;
    private static final int LETTER = 4;

    private final Due due = new Due();

    public static void main(String[] args) {
        EdgesOfAnswersTest test = new EdgesOfAnswersTest();
        test.breaksWithNoSuchText();
        test.breaksWithNoSuchKind();
        test.breaksOfAnEmptyText();
        test.breaksOfSixteen();
        test.levelWithNoSuchText();
        test.levelWithNoSuchCharacter();
        test.levelWithNoSuchBase();
        test.levelOfSixteen();
        test.onPageWithNoSuchTextOrBase();
        test.onPageNotBelowTheLength();
        test.onPageOfSixteen();
        test.keyWithNoSuchText();
        test.keyWithNoSuchLevel();
        test.keyWithNoWeight();
        test.keyOfAnEmptyText();
        test.keyOfTheLongestText();
        test.compareWithNoSuchLevel();
        test.compareOfEmptyTexts();
        test.compareOfTheLongestTexts();
        test.searchWithNoSuchLevel();
        test.searchInAnEmptyText();
        test.searchForAnEmptyText();
        test.searchThatFindsNothing();
        test.searchAtTheEnds();
        test.due.end("EdgesOfAnswersTest");
    }

    // Promise 10

    private void breaksWithNoSuchText() {
        due.sentence("promise 10: 0 if there is no such text");
        ScriptText x = new ScriptText();
        Given.text(x, 0, 5, 6);
        Given.text(x, 1, 7);
        for (int text : Outside.of(0, 1)) {
            due.is("breaks(" + text + ", 0)", x.breaks(text, 0), 0);
            due.is("breaks(" + text + ", 1)", x.breaks(text, 1), 0);
        }
        due.is("breaks(0, 0)", x.breaks(0, 0), 7);
        due.is("breaks(1, 0)", x.breaks(1, 0), 3);
    }

    private void breaksWithNoSuchKind() {
        due.sentence("promise 10: 0 if there is no such kind");
        ScriptText x = Given.withKinds();
        Given.text(x, 0, LETTER, LETTER);
        Given.text(x, 1, LETTER);
        for (int kind : Outside.of(0, 1)) {
            due.is("breaks(0, " + kind + ")", x.breaks(0, kind), 0);
            due.is("breaks(1, " + kind + ")", x.breaks(1, kind), 0);
        }
        due.is("breaks(0, 0)", x.breaks(0, 0), 7);
        due.is("breaks(0, 1)", x.breaks(0, 1), 5);
    }

    private void breaksOfAnEmptyText() {
        due.sentence("promise 10: an empty text has no breaks");
        for (int text = 0; text < 2; text++) {
            ScriptText x = new ScriptText();
            Given.text(x, 1 - text, 5);
            for (int kind = 0; kind < 2; kind++) {
                due.is("at first", x.breaks(text, kind), 0);
                Given.text(x, text, 5);
                due.is("with one character", x.breaks(text, kind), 3);
                Given.text(x, text);
                due.is("when it is out", x.breaks(text, kind), 0);
            }
        }
    }

    private void breaksOfSixteen() {
        due.sentence("promise 10: a text of 16 is broken at 16 too");
        String[] rows = {
            "OOOOOOOOOOOOOOOO", "LLLLLLLLLLLLLLLL", "EEEEEEEEEEEEEEEE", "LLLLLLLLLLLLLLLO", "CEEEEEEEEEEEEEEE",
        };
        int every = (1 << 17) - 1;
        int ends = 1 + (1 << 16);
        int[] clusters = {every, every, ends, every, ends + 2};
        int[] words = {every, ends, ends, ends + (1 << 15), ends + 2};
        for (int text = 0; text < 2; text++) {
            for (int i = 0; i < rows.length; i++) {
                ScriptText x = Given.withKinds();
                Given.row(x, 1 - text, Given.KINDS, rows[1]);
                Given.row(x, text, Given.KINDS, rows[i]);
                due.is("clusters of " + rows[i], x.breaks(text, 0), clusters[i]);
                due.is("words of " + rows[i], x.breaks(text, 1), words[i]);
            }
        }
    }

    // Promises 11 and 12

    /** Text 0 is a RIGHT and a NUMBER, text 1 is a LEFT. */
    private static ScriptText page() {
        ScriptText x = Given.withDirections();
        Given.row(x, 0, Given.DIRECTIONS, "RN");
        Given.row(x, 1, Given.DIRECTIONS, "L");
        return x;
    }

    private void levelWithNoSuchText() {
        due.sentence("promise 11: -1 if there is no such text");
        ScriptText x = page();
        for (int text : Outside.of(0, 1)) {
            due.is("level(" + text + ", 0, 0)", x.level(text, 0, 0), -1);
            due.is("level(" + text + ", 1, 0)", x.level(text, 1, 0), -1);
        }
        due.is("level(0, 0, 0)", x.level(0, 0, 0), 1);
        due.is("level(1, 0, 0)", x.level(1, 0, 0), 0);
    }

    private void levelWithNoSuchCharacter() {
        due.sentence("promise 11: -1 if there is no such character");
        ScriptText x = page();
        for (int base = 0; base < 2; base++) {
            for (int at : Outside.of(0, 1)) {
                due.is("level(0, " + base + ", " + at + ")", x.level(0, base, at), -1);
            }
            for (int at : Outside.of(0, 0)) {
                due.is("level(1, " + base + ", " + at + ")", x.level(1, base, at), -1);
            }
            due.is("level(0, " + base + ", 1)", x.level(0, base, 1), 2);
        }
        x.erase(1, 0);
        due.is("level(1, 0, 0) of an empty text", x.level(1, 0, 0), -1);
        due.is("level(1, 1, 0) of an empty text", x.level(1, 1, 0), -1);
    }

    private void levelWithNoSuchBase() {
        due.sentence("promise 11: -1 if there is no such base");
        ScriptText x = page();
        for (int base : Outside.of(0, 1)) {
            due.is("level(0, " + base + ", 0)", x.level(0, base, 0), -1);
            due.is("level(1, " + base + ", 0)", x.level(1, base, 0), -1);
        }
        due.is("level(1, 0, 0)", x.level(1, 0, 0), 0);
        due.is("level(1, 1, 0)", x.level(1, 1, 0), 2);
    }

    private void levelOfSixteen() {
        due.sentence("promise 11: the levels of a text of 16");
        for (int text = 0; text < 2; text++) {
            ScriptText x = Given.withDirections();
            Given.row(x, 1 - text, Given.DIRECTIONS, "RRRRRRRRRRRRRRRR");
            Given.row(x, text, Given.DIRECTIONS, "LRNOLRNOLRNOLRNO");
            due.is("for 0", Given.levels(x, text, 0), "0120012001200120");
            due.is("for 1", Given.levels(x, text, 1), "2121212121212121");
            due.is("level(text, 0, 16)", x.level(text, 0, 16), -1);
        }
    }

    private void onPageWithNoSuchTextOrBase() {
        due.sentence("promise 12: -1 if there is no such text or base");
        ScriptText x = page();
        for (int text : Outside.of(0, 1)) {
            due.is("onPage(" + text + ", 0, 0)", x.onPage(text, 0, 0), -1);
            due.is("onPage(" + text + ", 1, 0)", x.onPage(text, 1, 0), -1);
        }
        for (int base : Outside.of(0, 1)) {
            due.is("onPage(0, " + base + ", 0)", x.onPage(0, base, 0), -1);
            due.is("onPage(1, " + base + ", 0)", x.onPage(1, base, 0), -1);
        }
        due.is("onPage(0, 0, 0)", x.onPage(0, 0, 0), 1);
        due.is("onPage(1, 1, 0)", x.onPage(1, 1, 0), 0);
    }

    private void onPageNotBelowTheLength() {
        due.sentence("promise 12: -1 if k is not below its length");
        ScriptText x = page();
        for (int base = 0; base < 2; base++) {
            for (int k : Outside.of(0, 1)) {
                due.is("onPage(0, " + base + ", " + k + ")", x.onPage(0, base, k), -1);
            }
            for (int k : Outside.of(0, 0)) {
                due.is("onPage(1, " + base + ", " + k + ")", x.onPage(1, base, k), -1);
            }
            due.is("onPage(0, " + base + ", 1)", x.onPage(0, base, 1), 0);
        }
        x.erase(1, 0);
        due.is("onPage(1, 0, 0) of an empty text", x.onPage(1, 0, 0), -1);
        due.is("onPage(1, 1, 0) of an empty text", x.onPage(1, 1, 0), -1);
    }

    private void onPageOfSixteen() {
        due.sentence("promise 12: the page of a text of 16");
        for (int text = 0; text < 2; text++) {
            ScriptText x = Given.withDirections();
            Given.row(x, text, Given.DIRECTIONS, "RRRRRRRRRRRRRRRR");
            due.is("for 0", Given.page(x, text, 0), "15 14 13 12 11 10 9 8 7 6 5 4 3 2 1 0");
            Given.row(x, text, Given.DIRECTIONS, "LLLLLLLLLLLLLLLR");
            due.is("for 1", Given.page(x, text, 1), "15 0 1 2 3 4 5 6 7 8 9 10 11 12 13 14");
            Given.row(x, text, Given.DIRECTIONS, "[[[RNNR)))LLLLRR");
            due.is("for 0", Given.page(x, text, 0), "0 1 2 6 4 5 3 7 8 9 10 11 12 13 15 14");
            due.is("onPage(text, 0, 16)", x.onPage(text, 0, 16), -1);
        }
    }

    // Promise 13

    private void keyWithNoSuchText() {
        due.sentence("promise 13: 0 if there is none (no such text)");
        ScriptText x = new ScriptText();
        Given.text(x, 0, 5, 6);
        Given.text(x, 1, 7);
        for (int text : Outside.of(0, 1)) {
            for (int level = 1; level <= 3; level++) {
                due.is("key(" + text + ", " + level + ", 0)", x.key(text, level, 0), 0);
            }
        }
        due.is("key(0, 1, 1)", x.key(0, 1, 1), 7);
        due.is("key(1, 1, 0)", x.key(1, 1, 0), 8);
    }

    private void keyWithNoSuchLevel() {
        due.sentence("promise 13: 0 if there is none (no such level)");
        ScriptText x = new ScriptText();
        Given.described(x, 5, 9, 77, 89);
        Given.text(x, 0, 5, 5);
        Given.text(x, 1, 5);
        for (int level : Outside.of(1, 3)) {
            due.is("key(0, " + level + ", 0)", x.key(0, level, 0), 0);
            due.is("key(1, " + level + ", 0)", x.key(1, level, 0), 0);
        }
        due.is("key(0, 1, 1)", x.key(0, 1, 1), 77);
        due.is("key(0, 2, 1)", x.key(0, 2, 1), 8);
        due.is("key(0, 3, 1)", x.key(0, 3, 1), 9);
    }

    private void keyWithNoWeight() {
        due.sentence("promise 13: 0 if there is none (no weight k)");
        ScriptText x = new ScriptText();
        Given.text(x, 0, 5, 6);
        Given.text(x, 1, 7);
        for (int k : Outside.of(0, 1)) {
            due.is("key(0, 1, " + k + ")", x.key(0, 1, k), 0);
            due.is("key(0, 2, " + k + ")", x.key(0, 2, k), 0);
            due.is("key(0, 3, " + k + ")", x.key(0, 3, k), 0);
        }
        for (int k : Outside.of(0, 0)) {
            due.is("key(1, 1, " + k + ")", x.key(1, 1, k), 0);
        }
        // Weights that are 0 are no weights of the key.
        Given.described(x, 5, 9, 0, 0);
        due.is("key(0, 1, 0)", x.key(0, 1, 0), 7);
        due.is("key(0, 1, 1)", x.key(0, 1, 1), 0);
        due.is("key(0, 3, 1)", x.key(0, 3, 1), 0);
    }

    private void keyOfAnEmptyText() {
        due.sentence("promise 13: 0 if there is none (an empty text)");
        for (int text = 0; text < 2; text++) {
            ScriptText x = new ScriptText();
            Given.text(x, 1 - text, 5);
            Given.text(x, text, 6);
            Given.text(x, text);
            for (int level = 1; level <= 3; level++) {
                for (int k = -1; k <= 2; k++) {
                    due.is("key(text, " + level + ", " + k + ")", x.key(text, level, k), 0);
                }
            }
        }
    }

    /** Character 21 decomposes into four of 1, and 1 expands into 5, 6. */
    private static ScriptText withLongKeys() {
        ScriptText x = new ScriptText();
        Given.described(x, 20, 1, 1, 1);
        Given.described(x, 21, 1, 20, 20);
        Given.described(x, 1, 10, 5, 6);
        return x;
    }

    private void keyOfTheLongestText() {
        due.sentence("promise 13: a text of 16, whose key may have 128");
        for (int text = 0; text < 2; text++) {
            ScriptText x = withLongKeys();
            Given.text(x, text, 21, 21, 21, 21, 21, 21, 21, 21, 21, 21, 21, 21, 21, 21, 21, 21);
            due.is("key 1", Given.key(x, text, 1), "6 7 ".repeat(64).trim());
            due.is("key(text, 2, 127)", x.key(text, 2, 127), 1);
            due.is("key(text, 3, 127)", x.key(text, 3, 127), 1);
            due.is("key(text, 3, 128)", x.key(text, 3, 128), 0);
            for (int k : Outside.of(0, 127)) {
                due.is("key(text, 1, " + k + ")", x.key(text, 1, k), 0);
            }
        }
    }

    // Promise 14

    private void compared(ScriptText x, int... wants) {
        for (int level = 1; level <= 4; level++) {
            due.is("compare(" + level + ")", x.compare(level), wants[level - 1]);
        }
    }

    private void compareWithNoSuchLevel() {
        due.sentence("promise 14: 2 if there is no such level");
        ScriptText x = new ScriptText();
        for (int level : Outside.of(1, 4)) {
            due.is("compare(" + level + ") of empty texts", x.compare(level), 2);
        }
        Given.text(x, 0, 5);
        for (int level : Outside.of(1, 4)) {
            due.is("compare(" + level + ") of others", x.compare(level), 2);
        }
        compared(x, 1, 1, 1, 1);
    }

    private void compareOfEmptyTexts() {
        due.sentence("promise 14: empty texts");
        ScriptText x = new ScriptText();
        Given.described(x, 10, 9, 0, 0);
        compared(x, 0, 0, 0, 0);
        Given.text(x, 0, 5);
        compared(x, 1, 1, 1, 1);
        Given.text(x, 0, 10);
        compared(x, 0, 0, 0, 1);
        Given.text(x, 0);
        Given.text(x, 1, 5);
        compared(x, -1, -1, -1, -1);
        Given.text(x, 1, 10);
        compared(x, 0, 0, 0, -1);
        Given.text(x, 1);
        compared(x, 0, 0, 0, 0);
    }

    private void compareOfTheLongestTexts() {
        due.sentence("promise 14: texts of 16, whose keys may have 128 and whose forms 64");
        ScriptText x = withLongKeys();
        Given.described(x, 3, 9, 0, 0);
        Given.described(x, 22, 1, 20, 1);
        Given.described(x, 23, 1, 22, 3);
        for (int text = 0; text < 2; text++) {
            Given.text(x, text, 21, 21, 21, 21, 21, 21, 21, 21, 21, 21, 21, 21, 21, 21, 21, 21);
        }
        compared(x, 0, 0, 0, 0);
        x.erase(1, 15);
        compared(x, 1, 1, 1, 1);
        x.insert(1, 15, 22);
        compared(x, 1, 1, 1, 1);
        x.erase(0, 15);
        x.insert(0, 15, 23);
        compared(x, 0, 0, 0, 1);
        x.erase(1, 15);
        x.insert(1, 15, 23);
        compared(x, 0, 0, 0, 0);
        x.erase(1, 15);
        x.insert(1, 15, 21);
        compared(x, -1, -1, -1, -1);
    }

    // Promise 15

    private void searched(ScriptText x, int... wants) {
        for (int level = 1; level <= 4; level++) {
            due.is("search(" + level + ")", x.search(level), wants[level - 1]);
        }
    }

    private void searchWithNoSuchLevel() {
        due.sentence("promise 15: -1 if there is no such level");
        ScriptText x = new ScriptText();
        for (int level : Outside.of(1, 4)) {
            due.is("search(" + level + ") of empty texts", x.search(level), -1);
        }
        Given.text(x, 0, 5, 6);
        Given.text(x, 1, 6);
        for (int level : Outside.of(1, 4)) {
            due.is("search(" + level + ") of others", x.search(level), -1);
        }
        searched(x, 34, 34, 34, 34);
    }

    private void searchInAnEmptyText() {
        due.sentence("promise 15: or 0 = s = e if it is empty");
        ScriptText x = new ScriptText();
        Given.described(x, 10, 9, 0, 0);
        Given.described(x, 11, 9, 0, 1);
        searched(x, 0, 0, 0, 0);
        Given.text(x, 1, 10);
        searched(x, 0, 0, 0, -1);
        Given.text(x, 1, 11, 10);
        searched(x, 0, 0, -1, -1);
        Given.text(x, 1, 5);
        searched(x, -1, -1, -1, -1);
        Given.text(x, 1);
        Given.text(x, 0, 5);
        Given.text(x, 0);
        searched(x, 0, 0, 0, 0);
    }

    private void searchForAnEmptyText() {
        due.sentence("promise 15: s <= e (an empty part)");
        ScriptText x = new ScriptText();
        Given.described(x, 10, 9, 0, 0);
        Given.text(x, 0, 5, 10, 6);
        searched(x, 0, 0, 0, 0);
        Given.text(x, 1, 10);
        searched(x, 0, 0, 0, 32 + 2);
        Given.text(x, 1, 10, 10);
        searched(x, 0, 0, 0, -1);
    }

    private void searchThatFindsNothing() {
        due.sentence("promise 15: -1 if there is none");
        ScriptText x = Given.withKinds();
        Given.text(x, 0, 20, 21, 22);
        Given.text(x, 1, 23);
        searched(x, -1, -1, -1, -1);
        Given.text(x, 1, 20, 21, 22, 23);
        searched(x, -1, -1, -1, -1);
        Given.text(x, 1, 20, 22);
        searched(x, -1, -1, -1, -1);
        // It is there, but not between breaks of clusters.
        Given.text(x, 0, 20, EXTEND, 22);
        Given.text(x, 1, 20);
        searched(x, -1, -1, -1, -1);
        Given.text(x, 1, EXTEND, 22);
        searched(x, -1, -1, -1, -1);
        Given.text(x, 1, 20, EXTEND);
        searched(x, 2, 2, 2, 2);
        Given.text(x, 1, 22);
        searched(x, 64 + 3, 64 + 3, 64 + 3, 64 + 3);
    }

    private void searchAtTheEnds() {
        due.sentence("promise 15: a text 0 of 16, 32 s + e");
        ScriptText x = new ScriptText();
        Given.text(x, 0, 5, 5, 5, 5, 5, 5, 5, 5, 5, 5, 5, 5, 5, 5, 5, 6);
        Given.text(x, 1, 6);
        searched(x, 496, 496, 496, 496);
        Given.text(x, 1, 5);
        searched(x, 1, 1, 1, 1);
        Given.text(x, 1, 5, 5, 5, 5, 5, 5, 5, 5, 5, 5, 5, 5, 5, 5, 5, 6);
        searched(x, 16, 16, 16, 16);
        Given.text(x, 1, 5, 5, 5, 5, 5, 5, 5, 5, 5, 5, 5, 5, 5, 5, 6);
        searched(x, 48, 48, 48, 48);
        Given.text(x, 1, 5, 5, 5, 5, 5, 5, 5, 5, 5, 5, 5, 5, 5, 5, 5, 5);
        searched(x, -1, -1, -1, -1);
    }
}
