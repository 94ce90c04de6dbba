/** The boundary cases that "Terms" names, each with a test of its own. */
public final class EdgesOfTermsTest {
    private static final int EXTEND = 2;
    private static final int LETTER = 4;
    private static final int MIDDLE = 6;
    /** A letter with lower case 11 and final form 14. */
    private static final int FULL = 10;

    private final Due due = new Due();

    public static void main(String[] args) {
        EdgesOfTermsTest test = new EdgesOfTermsTest();
        test.textsHaveAtMostSixteen();
        test.placesAreZeroToTheLength();
        test.composedIfThereIsOne();
        test.composedWithTheLeastNumber();
        test.composedOverLowerClassesAlone();
        test.composedOverComposedOnes();
        test.composedInThePlaceOfS();
        test.clustersIfThereIsACharacter();
        test.extendsAtTheBeginning();
        test.extendsBehindAControl();
        test.wordsWithoutW();
        test.wordsWithoutZ();
        test.finallyWithNoneToTheRight();
        test.notFinallyWithNoneToTheLeft();
        test.weightsOtherThanZero();
        test.keysThatEndFirst();
        test.formsThatEndFirst();
        test.embeddingsOverSix();
        test.embeddingsOverSixByThemselves();
        test.embeddingsOverSixAreEnded();
        test.endsWithNothingToEnd();
        test.baseAtTheEnds();
        test.due.end("EdgesOfTermsTest");
    }

    // Texts and places

    private void textsHaveAtMostSixteen() {
        due.sentence("texts are rows of at most 16 characters");
        for (int text = 0; text < 2; text++) {
            ScriptText x = new ScriptText();
            for (int i = 0; i < 16; i++) {
                due.yes("insert of character " + i, x.insert(text, i, i));
            }
            for (int at = 0; at <= 16; at++) {
                due.no("insert of a seventeenth at " + at, x.insert(text, at, 20));
            }
            due.is("the full text", Given.plain(x, text), "0 1 2 3 4 5 6 7 8 9 10 11 12 13 14 15");
            due.is("the other text", Given.plain(x, 1 - text), "");
            for (int i = 0; i < 16; i++) {
                due.yes("insert into the other text", x.insert(1 - text, 0, 20 + i));
            }
            due.no("insert of a seventeenth there", x.insert(1 - text, 0, 20));
            due.is("the full text", Given.plain(x, text), "0 1 2 3 4 5 6 7 8 9 10 11 12 13 14 15");
            due.is("the other one", Given.plain(x, 1 - text), "35 34 33 32 31 30 29 28 27 26 25 24 23 22 21 20");
        }
    }

    private void placesAreZeroToTheLength() {
        due.sentence("PLACES of a text are 0 to its length");
        for (int text = 0; text < 2; text++) {
            ScriptText atTheEnd = new ScriptText();
            ScriptText atTheBeginning = new ScriptText();
            for (int length = 0; length < 16; length++) {
                for (int at : Outside.of(0, length)) {
                    due.no("insert at " + at + " into " + length, atTheEnd.insert(text, at, 40));
                }
                due.yes("insert at the end of " + length, atTheEnd.insert(text, length, length));
                due.yes("insert at the beginning of " + length, atTheBeginning.insert(text, 0, length));
            }
            due.is("the text", Given.plain(atTheEnd, text), "0 1 2 3 4 5 6 7 8 9 10 11 12 13 14 15");
            due.is("the text", Given.plain(atTheBeginning, text), "15 14 13 12 11 10 9 8 7 6 5 4 3 2 1 0");
        }
    }

    // COMPOSED

    private void composed(ScriptText x, String want, int... characters) {
        for (int form = 1; form <= 3; form += 2) {
            for (int text = 0; text < 2; text++) {
                Given.text(x, text, characters);
                String call = java.util.Arrays.toString(characters) + " in form " + form;
                due.is(call, Given.normal(x, text, form), want);
            }
        }
    }

    private void composedIfThereIsOne() {
        due.sentence("COMPOSED: the last character s of class 0 before it (if there is one)");
        ScriptText x = new ScriptText();
        Given.described(x, 1, 0, 1, 0);
        Given.described(x, 2, 0, 2, 0);
        Given.described(x, 20, 1, 1, 2);
        Given.described(x, 21, 1, 1, 0);
        composed(x, "0: ");
        composed(x, "1: 2", 2);
        composed(x, "2: 1 2", 1, 2);
        composed(x, "2: 1 2", 20);
        composed(x, "2: 1 0", 1, 0);
        Given.described(x, 1, 0, 0, 0);
        composed(x, "1: 20", 1, 2);
        composed(x, "1: 21", 1, 0);
        // Text 0 ends with one of class 0, and text 1 has none before its first.
        Given.text(x, 0, 3, 3, 3, 3, 3, 3, 3, 3, 3, 3, 3, 3, 3, 3, 3, 1);
        Given.text(x, 1, 2);
        due.is("text 1 alone", Given.normal(x, 1, 1), "1: 2");
    }

    private void composedWithTheLeastNumber() {
        due.sentence("COMPOSED: the one with the least number");
        ScriptText x = new ScriptText();
        for (int c = 47; c >= 44; c--) {
            Given.described(x, c, 1, 5, 6);
        }
        composed(x, "1: 44", 5, 6);
        Given.described(x, 7, 1, 5, 6);
        composed(x, "1: 7", 5, 6);
        Given.described(x, 7, 4, 1, 0);
        composed(x, "1: 44", 5, 6);
        Given.described(x, 44, 2, 5, 6);
        composed(x, "1: 45", 5, 6);
        Given.described(x, 45, 3, 0, 0);
        Given.described(x, 46, 1, 6, 5);
        composed(x, "1: 47", 5, 6);
        Given.described(x, 47, 4, 1, 0);
        composed(x, "2: 5 6", 5, 6);
        Given.described(x, 1, 1, 0, 0);
        composed(x, "1: 1", 0, 0);
    }

    private void composedOverLowerClassesAlone() {
        due.sentence("COMPOSED: no character between them has class 0 or a class of at least that of x");
        ScriptText x = new ScriptText();
        Given.described(x, 1, 0, 1, 0);
        Given.described(x, 2, 0, 2, 0);
        Given.described(x, 3, 0, 2, 0);
        Given.described(x, 20, 1, 0, 2);
        Given.described(x, 21, 1, 0, 5);
        composed(x, "1: 20", 0, 2);
        composed(x, "2: 20 1", 0, 1, 2);
        composed(x, "3: 0 3 2", 0, 3, 2);
        composed(x, "2: 20 3", 0, 2, 3);
        composed(x, "3: 0 6 2", 0, 6, 2);
        composed(x, "1: 21", 0, 5);
        composed(x, "3: 0 1 5", 0, 1, 5);
        composed(x, "3: 0 6 5", 0, 6, 5);
    }

    /** What 6 and 1 are composed to stands between 0 and 2 with a class of its own. */
    private void composedOverComposedOnes() {
        due.sentence("COMPOSED: no character between them (a composed one too) has class 0 or a class of at least x's");
        ScriptText x = new ScriptText();
        Given.described(x, 1, 0, 1, 0);
        Given.described(x, 2, 0, 2, 0);
        Given.described(x, 20, 1, 0, 2);
        Given.described(x, 23, 1, 6, 1);
        composed(x, "2: 0 23", 0, 6, 1);
        composed(x, "3: 0 23 2", 0, 6, 1, 2);
        Given.described(x, 23, 0, 1, 0);
        composed(x, "2: 20 23", 0, 6, 1, 2);
        Given.described(x, 23, 0, 2, 0);
        composed(x, "3: 0 23 2", 0, 6, 1, 2);
        Given.described(x, 23, 0, 9, 0);
        composed(x, "3: 0 23 2", 0, 6, 1, 2);
    }

    /** What 0 and 1 are composed to has its own class, whatever the class of 0. */
    private void composedInThePlaceOfS() {
        due.sentence("COMPOSED: that one takes the place of s, and x is taken out");
        ScriptText x = new ScriptText();
        Given.described(x, 1, 0, 1, 0);
        Given.described(x, 2, 0, 2, 0);
        Given.described(x, 20, 1, 0, 1);
        Given.described(x, 21, 1, 20, 2);
        Given.described(x, 22, 1, 20, 6);
        Given.described(x, 23, 1, 5, 2);
        composed(x, "3: 5 20 7", 5, 0, 1, 7);
        composed(x, "2: 5 21", 5, 0, 1, 2);
        composed(x, "2: 5 22", 5, 0, 1, 6);
        Given.described(x, 20, 0, 1, 0);
        composed(x, "2: 20 2", 0, 1, 2);
        composed(x, "2: 20 6", 0, 1, 6);
        composed(x, "2: 23 20", 5, 0, 1, 2);
        // It is not ordered again, and a greater class is in the way.
        Given.described(x, 20, 0, 9, 0);
        composed(x, "2: 20 2", 0, 1, 2);
        composed(x, "3: 5 20 2", 5, 0, 1, 2);
    }

    // CLUSTERS and WORDS

    private void clustersIfThereIsACharacter() {
        due.sentence("CLUSTERS: broken at 0 and n (if n is above 0)");
        for (int text = 0; text < 2; text++) {
            ScriptText x = Given.withKinds();
            due.is("breaks of an empty text", x.breaks(text, 0), 0);
            for (int c = 0; c < 8; c++) {
                Given.text(x, text, c);
                due.is("breaks of one of kind " + c, x.breaks(text, 0), 3);
            }
            Given.text(x, text);
            due.is("breaks of a text that is empty again", x.breaks(text, 0), 0);
            Given.text(x, text, EXTEND, EXTEND, EXTEND);
            due.is("breaks of three that are one cluster", x.breaks(text, 0), 1 + 8);
        }
    }

    private void word(String want) {
        String kinds = want.replace("|", "");
        for (int text = 0; text < 2; text++) {
            ScriptText x = Given.withKinds();
            // The other text is full of letters, which have no say.
            Given.row(x, 1 - text, Given.KINDS, "LLLLLLLLLLLLLLLL");
            Given.row(x, text, Given.KINDS, kinds);
            due.is("words of text " + text, Given.barred(kinds, x.breaks(text, 1)), want);
        }
    }

    private void extendsAtTheBeginning() {
        due.sentence("WORDS: or that stands at the beginning (an EXTEND there is OTHER)");
        for (char kind : "OCPLDMJ".toCharArray()) {
            word("|E|" + kind + "|");
            word("|EE|" + kind + "|");
        }
        word("|E|M|L|");
        word("|EE|M|D|");
        word("|E|ME|L|");
        word("|E|LML|");
    }

    private void extendsBehindAControl() {
        due.sentence("WORDS: or behind a CONTROL (an EXTEND there is OTHER)");
        for (char kind : "OCPLDMJ".toCharArray()) {
            word("|C|E|" + kind + "|");
            word("|L|C|EE|" + kind + "|");
        }
        word("|L|C|E|M|L|");
        word("|D|C|EE|ME|D|");
        word("|J|C|E|L|");
        word("|L|M|C|E|L|");
        word("|C|E|C|E|L|");
    }

    private void wordsWithoutW() {
        due.sentence("WORDS: W may be missing");
        for (String kind : new String[] {"L", "D"}) {
            word("|M|" + kind + "|");
            word("|ME|" + kind + "|");
            word("|MEE|" + kind + "|M|");
            word("|" + kind + "M" + kind + "|");
        }
    }

    private void wordsWithoutZ() {
        due.sentence("WORDS: Z may be missing");
        for (String kind : new String[] {"L", "D"}) {
            word("|" + kind + "|M|");
            word("|" + kind + "|ME|");
            word("|" + kind + "E|MEE|");
            word("|M|" + kind + "|M|");
            String many = kind.repeat(15);
            word("|" + many + "|M|");
        }
        ScriptText x = Given.withKinds();
        Given.text(x, 0, LETTER, MIDDLE, LETTER);
        due.is("while Z is there", x.breaks(0, 1), 1 + 8);
        due.yes("erase(0, 2)", x.erase(0, 2));
        due.is("when Z has been taken out", x.breaks(0, 1), 1 + 2 + 4);
    }

    // CASE

    private static ScriptText withAFinalForm() {
        ScriptText x = Given.withKinds();
        Given.described(x, FULL, 8, LETTER, 0);
        Given.described(x, FULL, 5, 11, 0);
        Given.described(x, FULL, 7, 14, 0);
        return x;
    }

    /** The other text is full of letters, which have no say. */
    private void lower(String want, int... characters) {
        for (int text = 0; text < 2; text++) {
            ScriptText x = withAFinalForm();
            Given.row(x, 1 - text, Given.KINDS, "LLLLLLLLLLLLLLLL");
            Given.text(x, text, characters);
            due.is("lower of " + java.util.Arrays.toString(characters), Given.cased(x, text, 0), want);
        }
    }

    private void finallyWithNoneToTheRight() {
        due.sentence("CASE: the next one to the right is not a LETTER or there is none");
        lower("2: 4 14", LETTER, FULL);
        lower("3: 4 14 6", LETTER, FULL, MIDDLE);
        lower("3: 4 14 2", LETTER, FULL, EXTEND);
        lower("5: 4 14 2 6 2", LETTER, FULL, EXTEND, MIDDLE, EXTEND);
        lower("16: 4 4 4 4 4 4 4 4 4 4 4 4 4 4 4 14", 4, 4, 4, 4, 4, 4, 4, 4, 4, 4, 4, 4, 4, 4, 4, FULL);
        for (int kind = 0; kind < 8; kind++) {
            boolean passedOrNone = kind != LETTER;
            lower("3: 4 " + (passedOrNone ? 14 : 11) + " " + kind, LETTER, FULL, kind);
        }
        ScriptText x = withAFinalForm();
        Given.text(x, 0, LETTER, FULL, LETTER);
        due.is("while a letter is there", Given.cased(x, 0, 0), "3: 4 11 4");
        due.yes("erase(0, 2)", x.erase(0, 2));
        due.is("when it has been taken out", Given.cased(x, 0, 0), "2: 4 14");
    }

    private void notFinallyWithNoneToTheLeft() {
        due.sentence("CASE: the next character to the left is a LETTER");
        lower("1: 11", FULL);
        lower("2: 11 0", FULL, 0);
        lower("2: 6 11", MIDDLE, FULL);
        lower("2: 2 11", EXTEND, FULL);
        lower("4: 2 6 2 11", EXTEND, MIDDLE, EXTEND, FULL);
    }

    // SORTING

    private void keys(ScriptText x, String first, String second, String third) {
        due.is("key 1", Given.key(x, 0, 1), first);
        due.is("key 2", Given.key(x, 0, 2), second);
        due.is("key 3", Given.key(x, 0, 3), third);
    }

    private void weightsOtherThanZero() {
        due.sentence("SORTING: the l-th weights of its elements other than 0, in order");
        ScriptText x = new ScriptText();
        Given.described(x, 10, 9, 0, 0);
        Given.described(x, 11, 9, 0, 23);
        Given.described(x, 12, 9, 45, 3);
        Given.described(x, 13, 9, 46, 20);
        Given.text(x, 0, 10);
        keys(x, "", "", "");
        Given.text(x, 0, 10, 12, 10, 11, 13, 10);
        keys(x, "45 46", "2 2", "3 3");
        Given.described(x, 1, 10, 10, 12);
        Given.described(x, 2, 10, 13, 11);
        Given.text(x, 0, 1, 2);
        keys(x, "45 46", "2 2", "3 3");
        Given.described(x, 3, 12, 4, 11);
        Given.text(x, 0, 5, 3, 4, 5);
        keys(x, "6 6", "1 2 1", "1 3 1");
        Given.described(x, 3, 12, 4, 10);
        keys(x, "6 6", "1 1", "1 1");
        // A key of another length than the row of elements compares by its weights.
        Given.text(x, 0, 10, 12, 10);
        Given.text(x, 1, 12);
        compared(x, 0, 0, 0, -1);
    }

    private void compared(ScriptText x, int... wants) {
        for (int level = 1; level <= 4; level++) {
            due.is("compare(" + level + ")", x.compare(level), wants[level - 1]);
        }
    }

    private void keysThatEndFirst() {
        due.sentence("SORTING: a key being less if it ends first");
        ScriptText x = new ScriptText();
        Given.described(x, 10, 9, 0, 20);
        Given.described(x, 11, 9, 0, 2);
        Given.text(x, 0, 5);
        Given.text(x, 1, 5, 0);
        compared(x, -1, -1, -1, -1);
        Given.text(x, 0, 5, 0, 0);
        compared(x, 1, 1, 1, 1);
        Given.text(x, 0);
        Given.text(x, 1, 0);
        compared(x, -1, -1, -1, -1);
        // Key 2 ends first, then key 3.
        Given.text(x, 0, 5);
        Given.text(x, 1, 5, 10);
        compared(x, 0, -1, -1, -1);
        Given.text(x, 1, 5, 11);
        compared(x, 0, 0, -1, -1);
        Given.text(x, 0, 5, 11, 11);
        compared(x, 0, 0, 1, 1);
        // The lesser weight decides before an end does.
        Given.text(x, 0, 4, 4, 4);
        Given.text(x, 1, 5);
        compared(x, -1, -1, -1, -1);
        Given.text(x, 0, 6);
        Given.text(x, 1, 5, 5, 5);
        compared(x, 1, 1, 1, 1);
    }

    private void formsThatEndFirst() {
        due.sentence("SORTING: at level 4, if all are equal, the forms 0 decide in the same way");
        ScriptText x = new ScriptText();
        Given.described(x, 10, 9, 0, 0);
        Given.described(x, 11, 9, 0, 0);
        Given.text(x, 0, 5, 10);
        Given.text(x, 1, 5, 10, 10);
        compared(x, 0, 0, 0, -1);
        Given.text(x, 0, 5, 11);
        compared(x, 0, 0, 0, 1);
        Given.text(x, 1, 5);
        compared(x, 0, 0, 0, 1);
        Given.text(x, 0);
        Given.text(x, 1, 10);
        compared(x, 0, 0, 0, -1);
        Given.text(x, 0, 10);
        compared(x, 0, 0, 0, 0);
    }

    // ORDER ON THE PAGE

    private void levels(String directions, int base, String want) {
        for (int text = 0; text < 2; text++) {
            ScriptText x = Given.withDirections();
            Given.row(x, text, Given.DIRECTIONS, directions);
            due.is("levels of " + directions + " for " + base, Given.levels(x, text, base), want);
        }
    }

    private void embeddingsOverSix() {
        due.sentence("ORDER ON THE PAGE: a 4 or 5 that would make it more than 6 makes nothing");
        levels("((([L", 0, "01356");
        levels("((([R", 0, "01357");
        levels("((((R", 0, "01355");
        levels("((((L", 0, "01356");
        levels("[[[L", 0, "0246");
        levels("[[[RN", 0, "02478");
        levels("[[[[L", 0, "02466");
        levels("[[[[R", 0, "02467");
        levels("[[[(R", 0, "02467");
        levels("[[[([(RN", 0, "02466678");
        levels("((R", 1, "135");
        levels("(((R", 1, "1355");
        levels("[[[L", 1, "1246");
        levels("[[[[L", 1, "12466");
        levels("((((((((((((((((", 0, "0135555555555555");
        levels("[[[[[[[[[[[[[[[[", 0, "0246666666666666");
    }

    /** Behind one that makes nothing, another may still make something. */
    private void embeddingsOverSixByThemselves() {
        due.sentence("ORDER ON THE PAGE: a 4 or 5 that would make it more than 6 (each by what that one would make)");
        levels("(((([R", 0, "013557");
        levels("(((([L", 0, "013556");
        levels("((([R", 1, "13557");
        levels("((([L", 1, "13556");
        levels("((((([[R", 0, "01355567");
        levels("((((([[R)))))R", 0, "01355567655533");
        levels("[[[([L", 0, "024666");
    }

    private void embeddingsOverSixAreEnded() {
        due.sentence("ORDER ON THE PAGE: but has to be ended too");
        levels("((((R)R)R)R)R", 0, "0135555331111");
        levels("((((L)L)L)L)L", 0, "0135666341200");
        levels("[[[[R)R)R", 0, "024677745");
        levels("[[[(R)R)R", 0, "024677745");
        levels("[[[((R))R)R", 0, "02466777745");
        levels("(((([L)L", 0, "01355666");
        levels("(((L)L)L", 1, "13566634");
    }

    private void endsWithNothingToEnd() {
        due.sentence("ORDER ON THE PAGE: a 6 with nothing to end makes nothing");
        levels(")", 0, "0");
        levels(")", 1, "1");
        levels(")R", 0, "01");
        levels(")L", 1, "12");
        levels("))(R)L", 0, "000100");
        levels("(L))(L", 0, "021112");
        levels(")(R", 0, "001");
        levels("))))))))))))))))", 0, "0000000000000000");
        levels("))))))))))))))))", 1, "1111111111111111");
    }

    private void baseAtTheEnds() {
        due.sentence("ORDER ON THE PAGE: the level of the run beside it (the base if there is none)");
        levels("O", 0, "0");
        levels("O", 1, "1");
        levels("N", 0, "0");
        levels("RO", 0, "10");
        levels("OR", 0, "01");
        levels("LO", 1, "21");
        levels("OL", 1, "12");
        levels("NOR", 0, "001");
        levels("NOL", 1, "212");
        levels("[RO", 0, "032");
        levels("[RO", 1, "132");
        levels("(LO", 0, "021");
        levels("(LO", 1, "143");
    }
}
