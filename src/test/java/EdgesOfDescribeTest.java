/** The boundary cases that promise 2 (describe) names, each with a test of its own. */
public final class EdgesOfDescribeTest {
    private static final int CONTRACTION = 12;

    /** What, the least and the greatest of operand a, for character 20. */
    private static final int[][] RANGES_OF_A = {
        {0, 0, 9}, {1, 0, 19}, {2, 0, 19}, {4, 0, 1}, {5, 0, 47}, {6, 0, 47}, {7, -1, 47}, {8, 0, 7}, {9, 0, 99},
        {10, 0, 47}, {CONTRACTION, 0, 47}, {13, 0, 47}, {14, 0, 6},
    };
    /** The same of operand b. */
    private static final int[][] RANGES_OF_B = {
        {1, -1, 19}, {2, -1, 19}, {6, -1, 47}, {9, 0, 99}, {10, 0, 47}, {CONTRACTION, 0, 47},
    };

    private final Due due = new Due();

    public static void main(String[] args) {
        EdgesOfDescribeTest test = new EdgesOfDescribeTest();
        test.rangeOfC();
        test.rangeOfWhat();
        test.rangesOfA();
        test.rangesOfB();
        test.classesAtTheEdges();
        test.casesAtTheEdges();
        test.kindsAndDirectionsAtTheEdges();
        test.weightsAtTheEdges();
        test.elementsAtTheEdges();
        test.excludedIsOneOrZero();
        test.operandsThatAreNotUsed();
        test.decompositionIntoOnlyA();
        test.upperCaseOfOnlyA();
        test.noFinalForm();
        test.noLowerCaseOrExpansionIsMinusOne();
        test.belowC();
        test.moreThanFour();
        test.moreThanFourByAnother();
        test.whatItHadIsNotCounted();
        test.inPlaceOfTheSameTwo();
        test.sixOtherContractions();
        test.noneThatWasNotThere();
        test.due.end("EdgesOfDescribeTest");
    }

    private void asked(ScriptText x, boolean want, int c, int what, int a, int b) {
        due.is("describe(" + c + ", " + what + ", " + a + ", " + b + ")", x.describe(c, what, a, b), want);
    }

    // Ranges

    private void rangeOfC() {
        due.sentence("false if c is no character");
        for (int what = 0; what <= 14; what++) {
            ScriptText x = new ScriptText();
            boolean nothingIsBelow = what == 1 || what == 2;
            for (int c : Outside.of(0, 47)) {
                asked(x, false, c, what, 0, 0);
                asked(x, false, c, what, 1, 1);
            }
            asked(x, !nothingIsBelow, 0, what, 0, 0);
            asked(x, true, 47, what, 0, 0);
        }
    }

    private void rangeOfWhat() {
        due.sentence("false if what is not 0 to 14");
        ScriptText x = new ScriptText();
        for (int what : Outside.of(0, 14)) {
            asked(x, false, 20, what, 0, 0);
            asked(x, false, 0, what, 1, 1);
            asked(x, false, 47, what, 1, -1);
        }
        for (int what = 0; what <= 14; what++) {
            asked(x, true, 20, what, 0, 0);
        }
    }

    private void rangesOfA() {
        due.sentence("false if an operand that is used is not as said: a");
        for (int[] range : RANGES_OF_A) {
            for (int a = range[1]; a <= range[2]; a++) {
                asked(new ScriptText(), true, 20, range[0], a, 0);
            }
            for (int a : Outside.of(range[1], range[2])) {
                asked(new ScriptText(), false, 20, range[0], a, 0);
            }
        }
    }

    private void rangesOfB() {
        due.sentence("false if an operand that is used is not as said: b");
        for (int[] range : RANGES_OF_B) {
            for (int b = range[1]; b <= range[2]; b++) {
                asked(new ScriptText(), true, 20, range[0], 0, b);
            }
            for (int b : Outside.of(range[1], range[2])) {
                asked(new ScriptText(), false, 20, range[0], 0, b);
            }
        }
    }

    // What stands at the ends of a range works

    private void classesAtTheEdges() {
        due.sentence("0: class a (0..9)");
        ScriptText x = new ScriptText();
        Given.text(x, 0, 47, 0);
        for (int p = 0; p <= 9; p++) {
            for (int q = 0; q <= 9; q++) {
                Given.described(x, 47, 0, p, 0);
                Given.described(x, 0, 0, q, 0);
                x.normal(0, 0);
                due.is("the first by classes " + p + ", " + q, x.result(0), p > q && q > 0 ? 0 : 47);
            }
        }
    }

    private void casesAtTheEdges() {
        due.sentence("5: lower case a; 6: upper case a, b; 7: final form a (characters 0..47)");
        ScriptText x = new ScriptText();
        Given.described(x, 4, 8, 4, 0);
        Given.text(x, 0, 4, 20);
        for (int a = 0; a <= 47; a += 47) {
            Given.described(x, 20, 5, a, 0);
            due.is("lower case", Given.cased(x, 0, 0), "2: 4 " + a);
            Given.described(x, 20, 6, a, 47 - a);
            due.is("upper case", Given.cased(x, 0, 1), "3: 4 " + a + " " + (47 - a));
            Given.described(x, 20, 7, 47 - a, 0);
            due.is("final form", Given.cased(x, 0, 0), "2: 4 " + (47 - a));
            Given.described(x, 20, 7, -1, 0);
        }
        // The ends of the characters have cases of their own.
        Given.text(x, 0, 0, 47);
        Given.described(x, 0, 5, 47, 0);
        Given.described(x, 47, 5, 0, 0);
        Given.described(x, 0, 6, 1, 2);
        Given.described(x, 47, 6, 3, 0);
        due.is("lower case of 0 and 47", Given.cased(x, 0, 0), "2: 47 0");
        due.is("upper case of 0 and 47", Given.cased(x, 0, 1), "4: 1 2 3 0");
    }

    private void kindsAndDirectionsAtTheEdges() {
        due.sentence("8: kind a; 14: direction a");
        ScriptText x = new ScriptText();
        Given.described(x, 4, 8, 4, 0);
        Given.text(x, 0, 4, 47, 4);
        int[] words = {15, 15, 9, 15, 9, 9, 9, 9};
        int[] clusters = {15, 15, 13, 11, 15, 15, 15, 15};
        for (int kind = 0; kind <= 7; kind++) {
            Given.described(x, 47, 8, kind, 0);
            due.is("words by kind " + kind, x.breaks(0, 1), words[kind]);
            due.is("clusters by kind " + kind, x.breaks(0, 0), clusters[kind]);
        }
        ScriptText y = new ScriptText();
        Given.described(y, 1, 14, 1, 0);
        Given.text(y, 0, 1, 47, 1);
        String[] levels = {"101", "111", "121", "111", "111", "103", "111"};
        for (int direction = 0; direction <= 6; direction++) {
            Given.described(y, 47, 14, direction, 0);
            due.is("levels by direction " + direction, Given.levels(y, 0, 0), levels[direction]);
        }
        Given.described(y, 47, 14, 4, 0);
        Given.text(y, 0, 47, 0);
        due.is("what 4 begins", Given.levels(y, 0, 0), "02");
        Given.described(y, 0, 14, 6, 0);
        Given.text(y, 0, 47, 0, 1);
        due.is("what 6 ends", Given.levels(y, 0, 0), "001");
    }

    private void weightsAtTheEdges() {
        due.sentence("9: primary a (0..99), and b is 10 times the secondary (0..9) plus the tertiary (0..9)");
        ScriptText x = new ScriptText();
        Given.text(x, 0, 47);
        int[][] weights = {{0, 0}, {1, 1}, {99, 99}, {0, 9}, {98, 10}, {2, 90}, {50, 89}, {9, 11}, {10, 19}};
        for (int[] w : weights) {
            Given.described(x, 47, 9, w[0], w[1]);
            due.is("primary", x.key(0, 1, 0), w[0]);
            due.is("secondary", x.key(0, 2, 0), w[1] / 10);
            due.is("tertiary", x.key(0, 3, 0), w[1] % 10);
        }
        Given.text(x, 0, 46, 0);
        due.is("the neighbours' weights", Given.key(x, 0, 1), "47 1");
    }

    private void elementsAtTheEdges() {
        due.sentence("10: expansion a, b; 12: c and a are a contraction that stands for b (characters 0..47)");
        ScriptText x = new ScriptText();
        Given.text(x, 0, 47, 0);
        Given.described(x, 47, 10, 0, 47);
        Given.described(x, 0, 10, 47, 0);
        due.is("both expanded", Given.key(x, 0, 1), "1 48 48 1");
        Given.described(x, 47, CONTRACTION, 0, 47);
        due.is("contracted to 47", Given.key(x, 0, 1), "48");
        Given.described(x, 47, CONTRACTION, 0, 0);
        due.is("contracted to 0", Given.key(x, 0, 1), "1");
        Given.described(x, 47, 13, 0, 0);
        Given.described(x, 47, 11, 0, 0);
        due.is("one expanded", Given.key(x, 0, 1), "48 48 1");
        Given.described(x, 0, 11, 0, 0);
        due.is("none", Given.key(x, 0, 1), "48 1");
    }

    private void excludedIsOneOrZero() {
        due.sentence("4: excluded if a is 1, not if it is 0");
        ScriptText x = new ScriptText();
        Given.described(x, 20, 1, 5, 6);
        Given.text(x, 0, 5, 6);
        asked(x, true, 20, 4, 1, 0);
        for (int a : Outside.of(0, 1)) {
            asked(x, false, 20, 4, a, 0);
        }
        due.is("still excluded", Given.normal(x, 0, 1), "2: 5 6");
        asked(x, true, 20, 4, 0, 0);
        for (int a : Outside.of(0, 1)) {
            asked(x, false, 20, 4, a, 0);
        }
        due.is("still not", Given.normal(x, 0, 1), "1: 20");
    }

    // Operands that are not used

    private void operandsThatAreNotUsed() {
        due.sentence("an operand that is used (one that is not used may be any int)");
        for (int any : Outside.anyInt()) {
            ScriptText x = new ScriptText();
            Given.text(x, 0, 4, 20);
            asked(x, true, 4, 8, 4, any);
            asked(x, true, 20, 0, 3, any);
            asked(x, true, 4, 0, 5, any);
            asked(x, true, 20, 5, 21, any);
            asked(x, true, 20, 14, 1, any);
            due.is("levels", Given.levels(x, 0, 0), "01");
            due.is("lower", Given.cased(x, 0, 0), "2: 4 21");
            asked(x, true, 20, 7, 22, any);
            due.is("with a final form", Given.cased(x, 0, 0), "2: 4 22");
            asked(x, true, 20, 7, -1, any);
            due.is("with none", Given.cased(x, 0, 0), "2: 4 21");
            due.is("ordered", Given.normal(x, 0, 0), "2: 20 4");
            asked(x, true, 30, 1, 4, 20);
            asked(x, true, 30, 4, 1, any);
            Given.text(x, 0, 30);
            due.is("excluded", Given.normal(x, 0, 1), "2: 20 4");
            asked(x, true, 30, 3, any, any);
            due.is("no decomposition", Given.normal(x, 0, 0), "1: 30");
            asked(x, true, 30, 10, 1, 2);
            asked(x, true, 30, 11, any, any);
            due.is("no expansion", Given.key(x, 0, 1), "31");
            asked(x, true, 30, CONTRACTION, 31, 1);
            asked(x, true, 30, 13, 31, any);
            Given.text(x, 0, 30, 31);
            due.is("no contraction", Given.key(x, 0, 1), "31 32");
        }
    }

    // -1

    private void decompositionIntoOnlyA() {
        due.sentence("1: the canonical decomposition a, b (b -1: only a); 2: the compatible one");
        for (int what = 1; what <= 2; what++) {
            ScriptText x = new ScriptText();
            Given.text(x, 0, 20);
            asked(x, true, 20, what, 5, 6);
            due.is("both", Given.normal(x, 0, 2), "2: 5 6");
            asked(x, true, 20, what, 5, 0);
            due.is("b may be 0", Given.normal(x, 0, 2), "2: 5 0");
            asked(x, true, 20, what, 7, -1);
            due.is("only a", Given.normal(x, 0, 2), "1: 7");
            due.is("only a", Given.normal(x, 0, 0), what == 1 ? "1: 7" : "1: 20");
            asked(x, false, 20, what, 5, -2);
            asked(x, false, 20, what, -1, 5);
            asked(x, false, 20, what, -1, -1);
            due.is("still only a", Given.normal(x, 0, 2), "1: 7");
            due.is("which is not composed", Given.normal(x, 0, 3), "1: 7");
        }
    }

    private void upperCaseOfOnlyA() {
        due.sentence("6: upper case a, b (b -1: only a)");
        ScriptText x = new ScriptText();
        Given.text(x, 0, 20);
        asked(x, true, 20, 6, 5, 6);
        due.is("both", Given.cased(x, 0, 1), "2: 5 6");
        asked(x, true, 20, 6, 5, 0);
        due.is("b may be 0", Given.cased(x, 0, 1), "2: 5 0");
        asked(x, true, 20, 6, 7, -1);
        due.is("only a", Given.cased(x, 0, 1), "1: 7");
        asked(x, false, 20, 6, 5, -2);
        asked(x, false, 20, 6, -1, 5);
        asked(x, false, 20, 6, -1, -1);
        due.is("still only a", Given.cased(x, 0, 1), "1: 7");
        due.is("folded", Given.cased(x, 0, 3), "1: 7");
    }

    private void noFinalForm() {
        due.sentence("7: final form a (-1: none)");
        ScriptText x = new ScriptText();
        Given.described(x, 4, 8, 4, 0);
        Given.text(x, 0, 4, 20);
        asked(x, true, 20, 7, -1, 0);
        due.is("none where there was none", Given.cased(x, 0, 0), "2: 4 20");
        asked(x, true, 20, 7, 0, 0);
        due.is("0 is one", Given.cased(x, 0, 0), "2: 4 0");
        asked(x, false, 20, 7, -2, 0);
        due.is("-2 is nothing", Given.cased(x, 0, 0), "2: 4 0");
        asked(x, true, 20, 7, -1, 0);
        due.is("none any more", Given.cased(x, 0, 0), "2: 4 20");
    }

    private void noLowerCaseOrExpansionIsMinusOne() {
        due.sentence("-1 is no character where it is not said to be none");
        ScriptText x = new ScriptText();
        Given.described(x, 20, 5, 21, 0);
        Given.described(x, 20, 10, 22, 23);
        Given.described(x, 20, CONTRACTION, 24, 25);
        asked(x, false, 20, 5, -1, 0);
        asked(x, false, 20, 10, -1, 1);
        asked(x, false, 20, 10, 1, -1);
        asked(x, false, 20, 10, -1, -1);
        asked(x, false, 20, CONTRACTION, -1, 1);
        asked(x, false, 20, CONTRACTION, 24, -1);
        asked(x, false, 20, 13, -1, 0);
        Given.text(x, 0, 20, 20, 24);
        due.is("lower", Given.cased(x, 0, 0), "3: 21 21 24");
        due.is("key 1", Given.key(x, 0, 1), "23 24 26");
    }

    // Decompositions

    private void belowC() {
        due.sentence("characters in a decomposition below c");
        for (int what = 1; what <= 2; what++) {
            for (int c = 0; c <= 47; c++) {
                ScriptText x = new ScriptText();
                asked(x, false, c, what, c, -1);
                asked(x, false, c, what, 47, -1);
                asked(x, false, c, what, 0, c);
                asked(x, false, c, what, c, 0);
                asked(x, false, c, what, 0, c + 1);
                asked(x, c > 0, c, what, c - 1, c - 1);
                asked(x, c > 0, c, what, 0, 0);
                asked(x, c > 0, c, what, c - 1, -1);
                Given.text(x, 0, c);
                due.is("form 2 of " + c, Given.normal(x, 0, 2), "1: " + Math.max(0, c - 1));
            }
        }
    }

    private void moreThanFour() {
        due.sentence("false if a character decomposed compatibly would give more than 4");
        for (int what = 1; what <= 2; what++) {
            int other = 3 - what;
            ScriptText x = new ScriptText();
            asked(x, true, 10, what, 0, 1);
            asked(x, true, 11, other, 10, 2);
            asked(x, true, 12, what, 3, 11);
            asked(x, true, 13, other, 10, 10);
            asked(x, true, 14, what, 13, -1);
            for (int type = 1; type <= 2; type++) {
                asked(x, false, 20, type, 12, 4);
                asked(x, false, 20, type, 4, 12);
                asked(x, false, 20, type, 11, 10);
                asked(x, false, 20, type, 10, 11);
                asked(x, false, 20, type, 13, 14);
                asked(x, false, 20, type, 4, 14);
            }
            Given.text(x, 0, 20, 12, 14);
            due.is("form 2", Given.normal(x, 0, 2), "9: 20 3 0 1 2 0 1 0 1");
            asked(x, true, 20, what, 12, -1);
            due.is("four of each", Given.normal(x, 0, 2), "12: 3 0 1 2 3 0 1 2 0 1 0 1");
        }
    }

    private void moreThanFourByAnother() {
        due.sentence("false if a character (above c too) decomposed compatibly would give more than 4");
        for (int what = 1; what <= 2; what++) {
            ScriptText x = new ScriptText();
            asked(x, true, 47, 3 - what, 20, 20);
            asked(x, true, 20, what, 10, 11);
            asked(x, false, 10, what, 1, 2);
            asked(x, false, 11, 3 - what, 1, 2);
            asked(x, true, 10, what, 5, -1);
            asked(x, false, 5, what, 1, 2);
            asked(x, true, 5, what, 4, -1);
            asked(x, true, 6, what, 1, 2);
            asked(x, false, 10, 3 - what, 6, -1);
            Given.text(x, 0, 47, 20, 10, 11, 5);
            due.is("form 2", Given.normal(x, 0, 2), "9: 4 11 4 11 4 11 4 11 4");
            asked(x, true, 47, 3, 0, 0);
            asked(x, true, 10, what, 1, 2);
            asked(x, false, 47, what, 20, 20);
            asked(x, true, 47, what, 20, 1);
            due.is("form 2", Given.normal(x, 0, 2), "11: 1 2 11 1 1 2 11 1 2 11 4");
        }
    }

    private void whatItHadIsNotCounted() {
        due.sentence("both in place of what it had");
        ScriptText x = new ScriptText();
        Given.text(x, 0, 20, 30);
        for (int times = 0; times < 5; times++) {
            asked(x, true, 10, 1, 0, 1);
            asked(x, true, 20, 1, 10, 10);
            asked(x, true, 30, 2, 20, -1);
            asked(x, true, 20, 2, 10, 10);
            due.is("form 0", Given.normal(x, 0, 0), "2: 20 30");
            due.is("form 2", Given.normal(x, 0, 2), "8: 0 1 0 1 0 1 0 1");
            asked(x, true, 20, 1, 10, 10);
            due.is("form 0", Given.normal(x, 0, 0), "5: 0 1 0 1 30");
            asked(x, true, 30, 1, 10, 2);
            due.is("form 0", Given.normal(x, 0, 0), "7: 0 1 0 1 0 1 2");
        }
    }

    // Contractions

    private void inPlaceOfTheSameTwo() {
        due.sentence("12: c and a are a contraction that stands for b, in place of one of the same two");
        ScriptText x = new ScriptText();
        Given.text(x, 0, 1, 2, 2, 1, 1, 1);
        for (int meaning = 10; meaning < 30; meaning++) {
            asked(x, true, 1, CONTRACTION, 2, meaning);
            due.is("key 1", Given.key(x, 0, 1), (meaning + 1) + " 3 2 2 2");
        }
        asked(x, true, 2, CONTRACTION, 1, 30);
        due.is("the same in the other order are other two", Given.key(x, 0, 1), "30 31 2 2");
        asked(x, true, 1, CONTRACTION, 1, 31);
        due.is("twice the same one", Given.key(x, 0, 1), "30 31 32");
        asked(x, true, 1, CONTRACTION, 2, 40);
        due.is("the first one again", Given.key(x, 0, 1), "41 31 32");
        asked(x, true, 1, 13, 2, 0);
        due.is("it was only one", Given.key(x, 0, 1), "2 3 31 32");
    }

    private static ScriptText withSixContractions() {
        ScriptText x = new ScriptText();
        for (int i = 0; i < 6; i++) {
            Given.described(x, 10 + i, CONTRACTION, 20 + i, 30 + i);
        }
        return x;
    }

    private void sixOtherContractions() {
        due.sentence("false if there are 6 other contractions (12)");
        String six = "31 32 33 34 35 36";
        for (int place = 0; place < 6; place++) {
            ScriptText x = withSixContractions();
            Given.text(x, 0, 10, 20, 11, 21, 12, 22, 13, 23, 14, 24, 15, 25);
            asked(x, false, 16, CONTRACTION, 26, 36);
            asked(x, false, 20 + place, CONTRACTION, 10 + place, 36);
            asked(x, false, 10 + place, CONTRACTION, 26, 36);
            due.is("six are there", Given.key(x, 0, 1), six);
            asked(x, true, 10 + place, CONTRACTION, 20 + place, 40 + place);
            due.is("one has another meaning", Given.key(x, 0, 1), six.replace("" + (31 + place), "" + (41 + place)));
            asked(x, true, 10 + place, 13, 20 + place, 0);
            String five = six.replace("" + (31 + place), (11 + place) + " " + (21 + place));
            due.is("five are there", Given.key(x, 0, 1), five);
            asked(x, true, 16, CONTRACTION, 26, 36);
            asked(x, false, 10 + place, CONTRACTION, 20 + place, 30 + place);
            asked(x, false, 17, CONTRACTION, 27, 37);
            due.is("another in its place", Given.key(x, 0, 1), five);
            Given.text(x, 1, 16, 26);
            due.is("the other one", Given.key(x, 1, 1), "37");
        }
    }

    private void noneThatWasNotThere() {
        due.sentence("13: c and a are none any more; 3: none any more; 11: no expansion");
        ScriptText x = withSixContractions();
        asked(x, true, 16, 13, 26, 0);
        asked(x, true, 20, 13, 10, 0);
        asked(x, true, 10, 3, 0, 0);
        asked(x, true, 10, 11, 0, 0);
        Given.text(x, 0, 10, 20, 11, 21, 12, 22, 13, 23, 14, 24, 15, 25);
        due.is("six are there", Given.key(x, 0, 1), "31 32 33 34 35 36");
        asked(x, false, 16, CONTRACTION, 26, 36);
    }
}
