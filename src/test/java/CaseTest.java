/** Promise 7: lower, upper, title and folded case. */
public final class CaseTest {
    private static final int OTHER = 0;
    private static final int CONTROL = 1;
    private static final int EXTEND = 2;
    private static final int LETTER = 4;
    private static final int DIGIT = 5;
    private static final int MIDDLE = 6;
    private static final int JOINER = 7;
    /** A letter with lower case 11, upper case 12 13 and final form 14. */
    private static final int FULL = 10;

    public static void main(String[] args) {
        Due due = new Due();
        lowerAndUpper(due);
        finalForms(due);
        finalFormsByTheTextAsItWas(due);
        titles(due);
        folded(due);
        due.end("CaseTest");
    }

    /** Characters 0 to 7 have the kind of their number, and 10 is a letter with all forms. */
    private static ScriptText script() {
        ScriptText x = new ScriptText();
        for (int k = 0; k < 8; k++) {
            Given.described(x, k, 8, k, 0);
        }
        Given.described(x, FULL, 8, LETTER, 0);
        Given.described(x, FULL, 5, 11, 0);
        Given.described(x, FULL, 6, 12, 13);
        Given.described(x, FULL, 7, 14, 0);
        return x;
    }

    private static void lowerAndUpper(Due due) {
        ScriptText x = script();
        Given.text(x, 0, FULL, 20, FULL);
        due.is("lower", Given.cased(x, 0, 0), "3: 11 20 11");
        due.is("upper", Given.cased(x, 0, 1), "5: 12 13 20 12 13");
        Given.described(x, FULL, 6, 15, -1);
        due.is("upper of one", Given.cased(x, 0, 1), "3: 15 20 15");
        Given.described(x, 15, 6, 16, 17);
        Given.described(x, 11, 5, 18, 0);
        due.is("once only", Given.cased(x, 0, 1), "3: 15 20 15");
        due.is("once only", Given.cased(x, 0, 0), "3: 11 20 11");
        Given.text(x, 0, LETTER, FULL);
        due.is("upper has no final form", Given.cased(x, 0, 1), "2: 4 15");
        for (int how = 0; how < 4; how++) {
            due.is("of an empty text", Given.cased(x, 1, how), "0: ");
        }
    }

    private static void lower(Due due, String want, int... characters) {
        ScriptText x = script();
        Given.text(x, 1, characters);
        String call = "lower of " + java.util.Arrays.toString(characters);
        due.is(call, Given.cased(x, 1, 0), characters.length + ": " + want);
    }

    private static void finalForms(Due due) {
        lower(due, "11", FULL);
        lower(due, "4 14", LETTER, FULL);
        lower(due, "4 11 4", LETTER, FULL, LETTER);
        lower(due, "11 4", FULL, LETTER);
        lower(due, "4 6 14", LETTER, MIDDLE, FULL);
        lower(due, "4 2 14", LETTER, EXTEND, FULL);
        lower(due, "4 2 6 2 6 14 6 2 6", LETTER, EXTEND, MIDDLE, EXTEND, MIDDLE, FULL, MIDDLE, EXTEND, MIDDLE);
        lower(due, "4 14 6 2 0", LETTER, FULL, MIDDLE, EXTEND, OTHER);
        lower(due, "4 11 6 2 4", LETTER, FULL, MIDDLE, EXTEND, LETTER);
        lower(due, "6 2 11", MIDDLE, EXTEND, FULL);
        lower(due, "4 14 1 4", LETTER, FULL, CONTROL, LETTER);
        lower(due, "4 1 11", LETTER, CONTROL, FULL);
        lower(due, "4 14 5", LETTER, FULL, DIGIT);
        lower(due, "4 14 7 4", LETTER, FULL, JOINER, LETTER);
        lower(due, "5 11", DIGIT, FULL);
        lower(due, "7 11", JOINER, FULL);
        lower(due, "3 11", 3, FULL);
        lower(due, "4 14 3", LETTER, FULL, 3);
        lower(due, "11 14", FULL, FULL);
        lower(due, "11 11 14 0 11", FULL, FULL, FULL, OTHER, FULL);
    }

    private static void finalFormsByTheTextAsItWas(Due due) {
        ScriptText x = script();
        // Whatever stands finally may have a final form, and what it becomes has no say.
        Given.described(x, 20, 7, 21, 0);
        Given.text(x, 0, FULL, 20, FULL);
        due.is("one that is no letter", Given.cased(x, 0, 0), "3: 11 20 11");
        Given.text(x, 0, FULL, 20);
        due.is("one that is no letter", Given.cased(x, 0, 0), "2: 11 21");
        Given.described(x, FULL, 7, -1, 0);
        Given.text(x, 0, LETTER, FULL);
        due.is("no final form any more", Given.cased(x, 0, 0), "2: 4 11");
        Given.described(x, FULL, 7, 0, 0);
        due.is("final form 0", Given.cased(x, 0, 0), "2: 4 0");
    }

    private static void title(Due due, String want, int... characters) {
        ScriptText x = script();
        Given.text(x, 1, characters);
        due.is("title of " + java.util.Arrays.toString(characters), Given.cased(x, 1, 2), want);
    }

    private static void titles(Due due) {
        title(due, "2: 12 13", FULL);
        title(due, "3: 12 13 14", FULL, FULL);
        title(due, "4: 12 13 11 14", FULL, FULL, FULL);
        title(due, "5: 12 13 0 12 13", FULL, OTHER, FULL);
        title(due, "5: 12 13 6 11 14", FULL, MIDDLE, FULL, FULL);
        title(due, "6: 12 13 6 6 12 13", FULL, MIDDLE, MIDDLE, FULL);
        title(due, "4: 5 12 13 14", DIGIT, FULL, FULL);
        title(due, "3: 7 12 13", JOINER, FULL);
        title(due, "5: 12 13 5 7 11", FULL, DIGIT, JOINER, FULL);
        title(due, "5: 12 13 2 14 1", FULL, EXTEND, FULL, CONTROL);
        title(due, "6: 12 13 1 2 12 13", FULL, CONTROL, EXTEND, FULL);
        title(due, "3: 5 0 5", DIGIT, OTHER, DIGIT);
        title(due, "5: 3 12 13 14 0", 3, FULL, FULL, OTHER);
    }

    private static void folded(Due due) {
        ScriptText x = script();
        Given.described(x, 12, 5, 22, 0);
        Given.described(x, 13, 5, 23, 0);
        Given.described(x, 13, 7, 24, 0);
        Given.described(x, 12, 8, LETTER, 0);
        Given.text(x, 0, FULL, 0, LETTER, FULL);
        due.is("the lower case of each upper case", Given.cased(x, 0, 3), "6: 22 23 0 4 22 23");
        Given.described(x, 30, 5, 31, 0);
        Given.described(x, 30, 7, 32, 0);
        Given.text(x, 0, LETTER, 30);
        due.is("never the final form", Given.cased(x, 0, 3), "2: 4 31");
        due.is("as lower has it", Given.cased(x, 0, 0), "2: 4 32");
    }
}
