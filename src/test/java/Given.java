/** Short ways to bring an object into a state and to read it. */
final class Given {
    private static final int MOST = 16;

    private Given() {
    }

    /** Puts these characters into a text in place of what it was. */
    static void text(ScriptText x, int text, int... characters) {
        boolean wasOne = true;
        for (int i = 0; i < MOST && wasOne; i++) {
            wasOne = x.erase(text, 0);
        }
        for (int i = 0; i < characters.length; i++) {
            if (!x.insert(text, i, characters[i])) {
                throw new IllegalStateException("character " + i + " of a text was refused");
            }
        }
    }

    static void described(ScriptText x, int c, int what, int a, int b) {
        if (!x.describe(c, what, a, b)) {
            throw new IllegalStateException("describe(" + c + ", " + what + ", " + a + ", " + b + ") was refused");
        }
    }

    /** The result, as the numbers of its characters. */
    static String result(ScriptText x) {
        StringBuilder row = new StringBuilder();
        for (int k = 0; x.result(k) != -1; k++) {
            row.append(k == 0 ? "" : " ").append(x.result(k));
        }
        return row.toString();
    }

    /** A text, read by its upper case where no upper case has been described; the result changes. */
    static String plain(ScriptText x, int text) {
        x.cased(text, 1);
        return result(x);
    }

    static String normal(ScriptText x, int text, int form) {
        int length = x.normal(text, form);
        return length + ": " + result(x);
    }

    static String cased(ScriptText x, int text, int how) {
        int length = x.cased(text, how);
        return length + ": " + result(x);
    }

    static String key(ScriptText x, int text, int level) {
        StringBuilder row = new StringBuilder();
        for (int k = 0; x.key(text, level, k) != 0; k++) {
            row.append(k == 0 ? "" : " ").append(x.key(text, level, k));
        }
        return row.toString();
    }

    static String levels(ScriptText x, int text, int base) {
        StringBuilder row = new StringBuilder();
        for (int at = 0; x.level(text, base, at) != -1; at++) {
            row.append(x.level(text, base, at));
        }
        return row.toString();
    }

    static String page(ScriptText x, int text, int base) {
        StringBuilder row = new StringBuilder();
        for (int k = 0; x.onPage(text, base, k) != -1; k++) {
            row.append(k == 0 ? "" : " ").append(x.onPage(text, base, k));
        }
        return row.toString();
    }

    /** The places of breaks, as a list. */
    static String places(int sum) {
        StringBuilder row = new StringBuilder();
        for (int place = 0; place < 31; place++) {
            if ((sum >> place & 1) == 1) {
                row.append(row.length() == 0 ? "" : " ").append(place);
            }
        }
        return row.toString();
    }
}
