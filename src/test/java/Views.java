import java.util.ArrayList;
import java.util.List;
import java.util.StringJoiner;
import java.util.function.Function;

/**
 * What can be seen of an object, in parts. Each is read with so few calls that some 150 may come
 * before it, and it may change the object, so that each needs one of its own.
 */
final class Views {
    /** Characters that a test which uses these views leaves alone. */
    private static final int LETTER = 35;
    private static final int EXTEND = 36;
    private static final int RIGHT = 37;
    private static final int BEGIN = 38;
    private static final int PLAIN = 39;
    /** In the view of classes they have 1 to 9. */
    private static final int[] MARKS = {28, 29, 32, 33, 34, LETTER, EXTEND, RIGHT, 43};

    record View(String name, Function<ScriptText, String> read) {
    }

    private Views() {
    }

    // Objects to look at

    /** Much is described, and there are 5 contractions. */
    static ScriptText described() {
        int[][] descriptions = {
            {2, 0, 2, 0}, {3, 0, 5, 0}, {25, 0, 3, 0}, {15, 1, 6, 7}, {20, 1, 1, 2}, {21, 2, 20, 5}, {22, 1, 20, 3},
            {23, 1, 1, 3}, {23, 4, 1, 0}, {30, 1, 6, -1}, {31, 2, 30, 7}, {20, 5, 8, 0}, {25, 5, 8, 0},
            {0, 5, 10, 0}, {47, 5, 9, 0},
            {20, 6, 11, 12}, {25, 6, 12, 11}, {0, 6, 14, 15}, {47, 6, 13, -1}, {20, 7, 16, 0}, {25, 7, 17, 0},
            {8, 8, 1, 0}, {9, 8, 2, 0}, {10, 8, 3, 0}, {4, 8, 4, 0}, {5, 8, 5, 0}, {6, 8, 6, 0}, {7, 8, 7, 0},
            {20, 8, 4, 0}, {25, 8, 4, 0}, {20, 9, 77, 89}, {25, 9, 76, 88}, {0, 9, 50, 23}, {47, 9, 0, 0},
            {25, 10, 17, 18}, {24, 10, 0, 47}, {10, 12, 11, 30}, {11, 12, 12, 31}, {25, 12, 26, 32}, {25, 12, 25, 33},
            {1, 12, 2, 34}, {1, 14, 1, 0}, {2, 14, 2, 0}, {3, 14, 3, 0}, {4, 14, 4, 0}, {5, 14, 5, 0}, {6, 14, 6, 0},
            {25, 14, 1, 0}, {20, 14, 2, 0},
        };
        ScriptText x = new ScriptText();
        for (int[] d : descriptions) {
            Given.described(x, d[0], d[1], d[2], d[3]);
        }
        Given.text(x, 0, 25, 20, 2, 1, 4, 47, 0, 25);
        x.cased(0, 1);
        Given.text(x, 1, 20, 25, 26, 3);
        return x;
    }

    /** Both texts have 16, there are 6 contractions, and the result is longer than 16. */
    static ScriptText full() {
        ScriptText x = described();
        Given.described(x, 41, 1, 20, 20);
        Given.described(x, 12, 12, 13, 27);
        Given.text(x, 0, 41, 25, 20, 2, 1, 4, 47, 0, 25, 22, 23, 24, 3, 10, 11, 25);
        Given.text(x, 1, 12, 13, 25, 26, 4, 41, 5, 1, 2, 6, 7, 41, 25, 9, 0, 47);
        x.normal(0, 2);
        return x;
    }

    // The views

    static List<View> all() {
        List<View> views = new ArrayList<>();
        views.add(new View("the result", Given::result));
        views.add(new View("taking the result", Views::taken));
        for (int text = 0; text < 2; text++) {
            int t = text;
            for (int how = 0; how < 4; how++) {
                int h = how;
                views.add(new View("form " + h + " of text " + t, x -> Given.normal(x, t, h)));
                views.add(new View("case " + h + " of text " + t, x -> Given.cased(x, t, h)));
            }
            views.add(new View("places of text " + t, x -> places(x, t)));
            views.add(new View("room in text " + t, x -> room(x, t)));
        }
        views.add(new View("order", Views::order));
        for (int from = 0; from < 48; from += 16) {
            addViewsOfCharacters(views, from);
        }
        views.add(new View("exclusions", Views::exclusions));
        views.add(new View("own weights", Views::ownWeights));
        views.add(new View("classes below 24", x -> classes(x, 0)));
        views.add(new View("classes from 24 on", x -> classes(x, 24)));
        views.add(new View("final forms", Views::finalForms));
        views.add(new View("kinds", Views::kinds));
        views.add(new View("directions below 24", x -> directions(x, 0)));
        views.add(new View("directions from 24 on", x -> directions(x, 24)));
        views.add(new View("room for contractions", Views::roomForContractions));
        views.add(new View("room in decompositions", Views::roomInDecompositions));
        return views;
    }

    /** Sixteen characters as text 1, in all forms and cases and with all keys. */
    private static void addViewsOfCharacters(List<View> views, int from) {
        for (int how = 0; how < 4; how++) {
            int h = how;
            views.add(new View("form " + h + " from " + from, x -> Given.normal(filled(x, from), 1, h)));
            views.add(new View("case " + h + " from " + from, x -> Given.cased(filled(x, from), 1, h)));
        }
        for (int level = 1; level <= 3; level++) {
            int l = level;
            views.add(new View("key " + l + " from " + from, x -> Given.key(filled(x, from), 1, l)));
        }
    }

    private static ScriptText filled(ScriptText x, int from) {
        for (int i = 0; i < 16; i++) {
            x.erase(1, 0);
        }
        for (int i = 0; i < 16; i++) {
            x.insert(1, i, from + i);
        }
        return x;
    }

    private static String taken(ScriptText x) {
        boolean took = x.take(0);
        return took + " " + Given.normal(x, 0, 0) + " " + x.take(1);
    }

    private static String places(ScriptText x, int text) {
        return Given.levels(x, text, 0) + " " + Given.page(x, text, 0) + " " + Given.levels(x, text, 1) + " "
            + Given.page(x, text, 1) + " " + x.breaks(text, 0) + " " + x.breaks(text, 1);
    }

    private static String room(ScriptText x, int text) {
        int inserted = 0;
        for (int i = 0; i < 17; i++) {
            inserted += x.insert(text, i, PLAIN) ? 1 : 0;
        }
        int erased = 0;
        for (int i = 0; i < 17; i++) {
            erased += x.erase(text, 0) ? 1 : 0;
        }
        return inserted + " in, " + erased + " out";
    }

    private static String order(ScriptText x) {
        StringJoiner row = new StringJoiner(" ");
        for (int level = 1; level <= 4; level++) {
            row.add("" + x.compare(level)).add("" + x.search(level));
        }
        for (int form = 0; form < 4; form++) {
            row.add("" + x.isNormal(0, form)).add("" + x.isNormal(1, form));
        }
        return row.toString();
    }

    /** Whether two characters are composed to each one above them. */
    private static String exclusions(ScriptText x) {
        Given.text(x, 1, 18, 19);
        StringJoiner row = new StringJoiner(" ");
        for (int c = 20; c < 48; c++) {
            row.add(x.describe(c, 1, 18, 19) + "" + x.normal(1, 1));
            x.describe(c, 3, 0, 0);
        }
        return row.toString();
    }

    /** The weights of each character itself, which another one's expansion shows. */
    private static String ownWeights(ScriptText x) {
        Given.text(x, 1, PLAIN);
        StringJoiner row = new StringJoiner(" ");
        for (int c = 0; c < 48; c++) {
            x.describe(PLAIN, 10, c, c);
            row.add(x.key(1, 1, 0) + "," + x.key(1, 2, 0) + "," + x.key(1, 3, 0));
        }
        return row.toString();
    }

    /** Where each character comes to stand among the marks. */
    private static String classes(ScriptText x, int from) {
        Given.text(x, 1, MARKS);
        for (int i = 0; i < MARKS.length; i++) {
            x.describe(MARKS[i], 0, i + 1, 0);
        }
        StringJoiner row = new StringJoiner(" ");
        for (int c = from; c < from + 24; c++) {
            x.insert(1, MARKS.length, c);
            x.normal(1, 0);
            int place = 0;
            while (place < MARKS.length && x.result(place) == MARKS[place]) {
                place++;
            }
            row.add("" + place);
            x.erase(1, MARKS.length);
        }
        return row.toString();
    }

    private static String finalForms(ScriptText x) {
        x.describe(LETTER, 8, 4, 0);
        Given.text(x, 1, LETTER, LETTER);
        StringJoiner row = new StringJoiner(" ");
        for (int c = 0; c < 48; c++) {
            x.erase(1, 1);
            x.insert(1, 1, c);
            x.cased(1, 0);
            row.add("" + x.result(1));
        }
        return row.toString();
    }

    private static String kinds(ScriptText x) {
        x.describe(LETTER, 8, 4, 0);
        x.describe(EXTEND, 8, 2, 0);
        Given.text(x, 1, LETTER, PLAIN, LETTER, PLAIN, EXTEND);
        StringJoiner row = new StringJoiner(" ");
        for (int c = 0; c < 48; c++) {
            x.erase(1, 3);
            x.insert(1, 3, c);
            x.erase(1, 1);
            x.insert(1, 1, c);
            row.add("" + x.breaks(1, 0)).add("" + x.breaks(1, 1));
        }
        return row.toString();
    }

    private static String directions(ScriptText x, int from) {
        x.describe(RIGHT, 14, 1, 0);
        x.describe(BEGIN, 14, 4, 0);
        Given.text(x, 1, PLAIN, PLAIN, PLAIN, RIGHT, PLAIN, RIGHT, BEGIN, PLAIN, PLAIN, RIGHT);
        StringJoiner row = new StringJoiner(" ");
        for (int c = from; c < from + 24; c++) {
            for (int at = 1; at <= 7; at += 3) {
                x.erase(1, at);
                x.insert(1, at, c);
                row.add("" + x.level(1, 0, at));
            }
            row.add("" + x.level(1, 0, 9));
        }
        return row.toString();
    }

    /** How many more there may be, and what the pairs that were described mean. */
    private static String roomForContractions(ScriptText x) {
        int[][] pairs = {
            {10, 11}, {11, 12}, {25, 26}, {25, 25}, {1, 2}, {12, 13}, {20, 0}, {20, 26}, {25, 0}, {0, 0}, {47, 0},
        };
        StringJoiner row = new StringJoiner(" ");
        for (int[] pair : pairs) {
            Given.text(x, 1, pair[0], pair[1]);
            row.add(Given.key(x, 1, 1) + ",");
        }
        for (int i = 0; i < 7; i++) {
            row.add("" + x.describe(PLAIN, 12, i, 46));
        }
        return row.toString();
    }

    /** Whether each character may still be made a pair, or three. */
    private static String roomInDecompositions(ScriptText x) {
        StringJoiner row = new StringJoiner(" ");
        Given.described(x, RIGHT, 1, LETTER, EXTEND);
        for (int c = RIGHT + 1; c < 48; c++) {
            row.add("" + x.describe(c, 2, RIGHT, c - 1));
        }
        for (int c = 1; c < 48; c++) {
            row.add("" + x.describe(c, 2, 0, 0)).add("" + x.describe(c, 3, 0, 0));
        }
        return row.toString();
    }
}
