/** Promise 10: clusters and words. */
public final class BreaksTest {
    private static final String KINDS = Given.KINDS;

    public static void main(String[] args) {
        Due due = new Due();
        clusters(due);
        wordsOfTwo(due);
        wordsWithMiddles(due);
        extendsArePassed(due);
        longTexts(due);
        due.end("BreaksTest");
    }

    private static String barred(String kinds, int kindOfBreaks) {
        ScriptText x = Given.withKinds();
        Given.row(x, 1, KINDS, kinds);
        return Given.barred(kinds, x.breaks(1, kindOfBreaks));
    }

    private static void cluster(Due due, String want) {
        due.is("clusters", barred(want.replace("|", ""), 0), want);
    }

    private static void word(Due due, String want) {
        due.is("words", barred(want.replace("|", ""), 1), want);
    }

    private static void clusters(Due due) {
        cluster(due, "");
        cluster(due, "|O|");
        cluster(due, "|E|");
        cluster(due, "|P|");
        for (int k = 0; k < 8; k++) {
            String kind = KINDS.substring(k, k + 1);
            cluster(due, kind.equals("C") ? "|C|E|" : "|" + kind + "E|");
            cluster(due, kind.equals("C") ? "|P|C|" : "|P" + kind + "|");
            cluster(due, kind.equals("E") ? "|OE|" : kind.equals("O") ? "|O|O|" : "|O|" + kind + "|");
            cluster(due, kind.equals("E") ? "|C|E|" : "|C|" + kind + "|");
            cluster(due, kind.equals("P") ? "|PO|" : "|" + kind + "|O|");
        }
        cluster(due, "|L|L|D|D|L|M|L|J|J|");
        cluster(due, "|PPEE|L|");
        cluster(due, "|PE|L|");
        cluster(due, "|EE|C|EE|PP|C|");
    }

    private static void wordsOfTwo(Due due) {
        String joined = " LL LD DL DD JL JD JJ LJ DJ ";
        for (int x = 0; x < 8; x++) {
            for (int y = 0; y < 8; y++) {
                String pair = KINDS.substring(x, x + 1) + KINDS.substring(y, y + 1);
                boolean whole = joined.contains(" " + pair + " ") || pair.endsWith("E") && !pair.equals("CE");
                word(due, whole ? "|" + pair + "|" : "|" + pair.charAt(0) + "|" + pair.charAt(1) + "|");
            }
        }
        word(due, "");
        for (int x = 0; x < 8; x++) {
            word(due, "|" + KINDS.charAt(x) + "|");
        }
    }

    private static void wordsWithMiddles(Due due) {
        word(due, "|LML|");
        word(due, "|DMD|");
        word(due, "|L|M|D|");
        word(due, "|D|M|L|");
        word(due, "|L|M|M|L|");
        word(due, "|L|M|");
        word(due, "|M|L|");
        word(due, "|LMLML|");
        word(due, "|LMLDMD|");
        word(due, "|J|M|J|");
        word(due, "|L|M|J|");
        word(due, "|JLML|");
        word(due, "|LMLJ|");
        word(due, "|L|M|O|");
        word(due, "|O|M|L|");
        word(due, "|C|M|C|");
        word(due, "|L|C|L|");
        word(due, "|M|M|M|");
        word(due, "|O|M|O|");
    }

    private static void extendsArePassed(Due due) {
        word(due, "|LEL|");
        word(due, "|LEEMEELEE|");
        word(due, "|DEMED|");
        word(due, "|LEJED|");
        word(due, "|OE|L|");
        word(due, "|OE|O|");
        word(due, "|LE|ME|");
        word(due, "|LE|ME|D|");
        word(due, "|LE|C|E|ME|L|");
        word(due, "|L|M|C|L|");
        word(due, "|L|ME|C|L|");
        word(due, "|P|L|");
        word(due, "|PE|LE|");
        word(due, "|LE|MEE|MEE|L|");
    }

    private static void longTexts(Due due) {
        word(due, "|LLLLLLLLLLLLLLLL|");
        word(due, "|LEEEEEEEEEEEEEEL|");
        word(due, "|LEEEEEMEEEEEEEEL|");
        word(due, "|O|O|O|O|O|O|O|O|O|O|O|O|O|O|O|O|");
        cluster(due, "|O|O|O|O|O|O|O|O|O|O|O|O|O|O|O|O|");
        cluster(due, "|PEEEEEEEEEEEEEEE|");
    }
}
