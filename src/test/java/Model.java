import java.util.ArrayList;
import java.util.Collections;
import java.util.HashMap;
import java.util.List;
import java.util.Map;
import java.util.regex.Matcher;
import java.util.regex.Pattern;

/**
 * A second reading of the document, as near to its words as lists, maps and patterns allow and
 * without a thought for speed, to hold ScriptText against.
 */
final class Model {
    private static final String KINDS = "OCEPLDMJ";

    private static final class Entry {
        int combining;
        List<Integer> decomposition;
        boolean canonical;
        boolean excluded;
        int lower;
        List<Integer> upper;
        int last = -1;
        int kind;
        int[] weights;
        List<Integer> expansion;
        int direction;

        Entry(int c) {
            lower = c;
            upper = List.of(c);
            weights = new int[] {c + 1, 1, 1};
        }
    }

    private final List<Entry> entries = new ArrayList<>();
    private final Map<List<Integer>, Integer> contractions = new HashMap<>();
    private final List<List<Integer>> texts = List.of(new ArrayList<>(), new ArrayList<>());
    private List<Integer> result = List.of();

    Model() {
        for (int c = 0; c < 48; c++) {
            entries.add(new Entry(c));
        }
    }

    private static boolean character(int c) {
        return 0 <= c && c <= 47;
    }

    private static List<Integer> oneOrTwo(int a, int b) {
        return b == -1 ? List.of(a) : List.of(a, b);
    }

    boolean describe(int c, int what, int a, int b) {
        if (!character(c)) {
            return false;
        }
        Entry e = entries.get(c);
        boolean digit = 0 <= a && a <= 9;
        if (what == 0 && digit) {
            e.combining = a;
        } else if ((what == 1 || what == 2) && 0 <= a && a < c && -1 <= b && b < c) {
            return decomposition(e, what == 1, oneOrTwo(a, b));
        } else if (what == 3) {
            e.decomposition = null;
        } else if (what == 4 && (a == 0 || a == 1)) {
            e.excluded = a == 1;
        } else if (what == 5 && character(a)) {
            e.lower = a;
        } else if (what == 6 && character(a) && (b == -1 || character(b))) {
            e.upper = oneOrTwo(a, b);
        } else if (what == 7 && (a == -1 || character(a))) {
            e.last = a;
        } else if (what == 8 && digit && a < 8) {
            e.kind = a;
        } else if (what == 9 && 0 <= a && a <= 99 && 0 <= b && b <= 99) {
            e.weights = new int[] {a, b / 10, b % 10};
        } else if (what == 10 && character(a) && character(b)) {
            e.expansion = List.of(a, b);
        } else if (what == 11) {
            e.expansion = null;
        } else if (what == 12 && character(a) && character(b)) {
            return contraction(List.of(c, a), b);
        } else if (what == 13 && character(a)) {
            contractions.remove(List.of(c, a));
        } else if (what == 14 && digit && a < 7) {
            e.direction = a;
        } else {
            return false;
        }
        return true;
    }

    private boolean decomposition(Entry e, boolean canonical, List<Integer> into) {
        List<Integer> had = e.decomposition;
        e.decomposition = into;
        for (int c = 0; c < 48; c++) {
            if (decomposed(List.of(c), true).size() > 4) {
                e.decomposition = had;
                return false;
            }
        }
        e.canonical = canonical;
        return true;
    }

    private boolean contraction(List<Integer> pair, int meaning) {
        if (!contractions.containsKey(pair) && contractions.size() == 6) {
            return false;
        }
        contractions.put(pair, meaning);
        return true;
    }

    private boolean text(int text) {
        return text == 0 || text == 1;
    }

    boolean insert(int text, int at, int c) {
        if (!text(text) || !character(c) || at < 0 || at > texts.get(text).size() || texts.get(text).size() == 16) {
            return false;
        }
        texts.get(text).add(at, c);
        return true;
    }

    boolean erase(int text, int at) {
        if (!text(text) || at < 0 || at >= texts.get(text).size()) {
            return false;
        }
        texts.get(text).remove(at);
        return true;
    }

    // Normal forms

    private List<Integer> decomposed(List<Integer> row, boolean any) {
        List<Integer> now = new ArrayList<>(row);
        for (int i = 0; i < now.size();) {
            Entry e = entries.get(now.get(i));
            if (e.decomposition != null && (any || e.canonical)) {
                now.remove(i);
                now.addAll(i, e.decomposition);
                i = 0;
            } else {
                i++;
            }
        }
        return now;
    }

    private int combining(int c) {
        return entries.get(c).combining;
    }

    private void order(List<Integer> row) {
        for (int i = 0; i + 1 < row.size();) {
            int p = combining(row.get(i));
            int q = combining(row.get(i + 1));
            if (p > q && q > 0) {
                Collections.swap(row, i, i + 1);
                i = 0;
            } else {
                i++;
            }
        }
    }

    private void compose(List<Integer> row) {
        for (int i = 1; i < row.size();) {
            int x = row.get(i);
            int s = i - 1;
            while (s >= 0 && combining(row.get(s)) != 0) {
                s--;
            }
            int whole = s < 0 ? -1 : whole(row.get(s), x);
            List<Integer> between = row.subList(s + 1, i);
            boolean open = between.stream().noneMatch(c -> combining(c) == 0 || combining(c) >= combining(x));
            if (whole >= 0 && open) {
                row.set(s, whole);
                row.remove(i);
            } else {
                i++;
            }
        }
    }

    private int whole(int s, int x) {
        for (int c = 0; c < 48; c++) {
            Entry e = entries.get(c);
            if (List.of(s, x).equals(e.decomposition) && e.canonical && !e.excluded) {
                return c;
            }
        }
        return -1;
    }

    private List<Integer> form(List<Integer> row, int form) {
        List<Integer> now = decomposed(row, form >= 2);
        order(now);
        if (form % 2 == 1) {
            compose(now);
        }
        return now;
    }

    int normal(int text, int form) {
        if (!text(text) || form < 0 || form > 3) {
            return -1;
        }
        result = form(texts.get(text), form);
        return result.size();
    }

    boolean isNormal(int text, int form) {
        return text(text) && form >= 0 && form <= 3 && form(texts.get(text), form).equals(texts.get(text));
    }

    // Case

    private String kinds(List<Integer> row) {
        StringBuilder kinds = new StringBuilder();
        for (int c : row) {
            kinds.append(KINDS.charAt(entries.get(c).kind));
        }
        return kinds.toString();
    }

    int cased(int text, int how) {
        if (!text(text) || how < 0 || how > 3) {
            return -1;
        }
        List<Integer> row = texts.get(text);
        String kinds = kinds(row);
        List<Integer> made = new ArrayList<>();
        for (int i = 0; i < row.size(); i++) {
            Entry e = entries.get(row.get(i));
            boolean last = kinds.substring(0, i).matches(".*L[ME]*") && !kinds.substring(i + 1).matches("[ME]*L.*");
            int lower = last && e.last >= 0 ? e.last : e.lower;
            if (how == 1 || how == 2 && firstLetter(text, kinds, i)) {
                made.addAll(e.upper);
            } else if (how == 3) {
                e.upper.forEach(u -> made.add(entries.get(u).lower));
            } else {
                made.add(lower);
            }
        }
        result = made;
        return result.size();
    }

    private boolean firstLetter(int text, String kinds, int at) {
        int from = at;
        while ((breaks(text, 1) >> from & 1) == 0) {
            from--;
        }
        return kinds.charAt(at) == 'L' && !kinds.substring(from, at).contains("L");
    }

    int result(int k) {
        return k >= 0 && k < result.size() ? result.get(k) : -1;
    }

    boolean take(int text) {
        if (!text(text) || result.size() > 16) {
            return false;
        }
        texts.get(text).clear();
        texts.get(text).addAll(result);
        return true;
    }

    // Clusters and words

    private static final Pattern IN_A_CLUSTER = Pattern.compile("(?<=[^C])(?=E)|(?<=P)(?=[^C])");
    private static final Pattern IN_A_WORD = Pattern.compile(
        "(?<=[LD])(?=[LD])|(?<=L)(?=ML)|(?<=LM)(?=L)|(?<=D)(?=MD)|(?<=DM)(?=D)|(?<=J)(?=[LDJ])|(?<=[LD])(?=J)");

    int breaks(int text, int kind) {
        if (!text(text) || kind < 0 || kind > 1 || texts.get(text).isEmpty()) {
            return 0;
        }
        String kinds = kinds(texts.get(text));
        int all = (1 << kinds.length() + 1) - 1;
        if (kind == 0) {
            Matcher inside = IN_A_CLUSTER.matcher(kinds);
            while (inside.find()) {
                all &= ~(1 << inside.start());
            }
            return all;
        }
        return wordBreaks(kinds, all);
    }

    /** What extends something is left out of the row that the pattern sees; where it stood is kept. */
    private int wordBreaks(String kinds, int all) {
        int places = all;
        StringBuilder bare = new StringBuilder();
        List<Integer> placeOf = new ArrayList<>();
        for (int i = 0; i < kinds.length(); i++) {
            if (kinds.charAt(i) == 'E' && i > 0 && kinds.charAt(i - 1) != 'C') {
                places &= ~(1 << i);
            } else {
                bare.append(kinds.charAt(i) == 'E' ? 'O' : kinds.charAt(i));
                placeOf.add(i);
            }
        }
        Matcher inside = IN_A_WORD.matcher(bare);
        while (inside.find()) {
            places &= ~(1 << placeOf.get(inside.start()));
        }
        return places;
    }

    // Order on the page

    private List<Integer> embeddings(List<Integer> row, int base) {
        List<Integer> levels = new ArrayList<>();
        List<Integer> before = new ArrayList<>();
        int now = base;
        for (int c : row) {
            int d = entries.get(c).direction;
            int was = now;
            if (d == 4 || d == 5) {
                before.add(now);
                int next = now + 1;
                while (next % 2 != (d == 4 ? 1 : 0)) {
                    next++;
                }
                now = next > 6 ? now : next;
            } else if (d == 6 && !before.isEmpty()) {
                now = before.remove(before.size() - 1);
            }
            levels.add(d == 6 ? now : was);
        }
        return levels;
    }

    private static String side(int level) {
        return level % 2 == 1 ? "r" : "l";
    }

    /** A run with what stands at its ends, as letters: l, r, n (a number) and o (neutral). */
    private String settled(String run, String own) {
        String now = run.replaceAll("(?<=l[no]{0,20})n", "l");
        for (int at = now.indexOf('o'); at >= 0; at = now.indexOf('o')) {
            int end = at;
            while (now.charAt(end) == 'o') {
                end++;
            }
            String before = now.substring(at - 1, at).replace('n', 'r');
            String behind = now.substring(end, end + 1).replace('n', 'r');
            String given = before.equals(behind) ? before : own;
            now = now.substring(0, at) + given.repeat(end - at) + now.substring(end);
        }
        return now;
    }

    private List<Integer> levels(List<Integer> row, int base) {
        List<Integer> embeddings = embeddings(row, base);
        List<Integer> levels = new ArrayList<>();
        int start = 0;
        while (start < row.size()) {
            int own = embeddings.get(start);
            int end = start;
            StringBuilder run = new StringBuilder();
            while (end < row.size() && embeddings.get(end) == own) {
                run.append("lrnoooo".charAt(entries.get(row.get(end)).direction));
                end++;
            }
            int before = start == 0 ? base : embeddings.get(start - 1);
            int behind = end == row.size() ? base : embeddings.get(end);
            String ends = side(Math.max(own, before)) + run + side(Math.max(own, behind));
            String settled = settled(ends, side(own));
            for (int i = 1; i <= end - start; i++) {
                char d = settled.charAt(i);
                levels.add(own + (own % 2 == 0 ? "lrn".indexOf(d) : d == 'r' ? 0 : 1));
            }
            start = end;
        }
        return levels;
    }

    int level(int text, int base, int at) {
        boolean there = text(text) && (base == 0 || base == 1) && at >= 0 && at < texts.get(text).size();
        return there ? levels(texts.get(text), base).get(at) : -1;
    }

    int onPage(int text, int base, int k) {
        if (!text(text) || base != 0 && base != 1 || k < 0 || k >= texts.get(text).size()) {
            return -1;
        }
        List<Integer> levels = levels(texts.get(text), base);
        List<Integer> page = new ArrayList<>();
        for (int i = 0; i < levels.size(); i++) {
            page.add(i);
        }
        for (int least = Collections.max(levels); least >= 1; least--) {
            int start = 0;
            while (start < page.size()) {
                int end = start;
                while (end < page.size() && levels.get(page.get(end)) >= least) {
                    end++;
                }
                Collections.reverse(page.subList(start, end));
                start = end + 1;
            }
        }
        return page.get(k);
    }

    // Sorting

    private List<int[]> elements(List<Integer> form) {
        List<int[]> elements = new ArrayList<>();
        List<Integer> left = new ArrayList<>(form);
        while (!left.isEmpty()) {
            int c = left.remove(0);
            Integer meaning = left.isEmpty() ? null : contractions.get(List.of(c, left.get(0)));
            if (meaning != null) {
                left.remove(0);
                elements.add(entries.get(meaning).weights);
            } else if (entries.get(c).expansion != null) {
                entries.get(c).expansion.forEach(x -> elements.add(entries.get(x).weights));
            } else {
                elements.add(entries.get(c).weights);
            }
        }
        return elements;
    }

    private List<Integer> key(List<Integer> row, int level) {
        List<Integer> key = new ArrayList<>();
        for (int[] element : elements(form(row, 0))) {
            if (element[level - 1] != 0) {
                key.add(element[level - 1]);
            }
        }
        return key;
    }

    private static int compared(List<Integer> left, List<Integer> right) {
        int[] l = left.stream().mapToInt(i -> i).toArray();
        int[] r = right.stream().mapToInt(i -> i).toArray();
        return Integer.signum(java.util.Arrays.compare(l, r));
    }

    private int compared(List<Integer> left, List<Integer> right, int level) {
        for (int l = 1; l <= Math.min(level, 3); l++) {
            int order = compared(key(left, l), key(right, l));
            if (order != 0) {
                return order;
            }
        }
        return level == 4 ? compared(form(left, 0), form(right, 0)) : 0;
    }

    int key(int text, int level, int k) {
        if (!text(text) || level < 1 || level > 3) {
            return 0;
        }
        List<Integer> key = key(texts.get(text), level);
        return k >= 0 && k < key.size() ? key.get(k) : 0;
    }

    int compare(int level) {
        return level < 1 || level > 4 ? 2 : compared(texts.get(0), texts.get(1), level);
    }

    int search(int level) {
        if (level < 1 || level > 4) {
            return -1;
        }
        List<Integer> row = texts.get(0);
        int places = row.isEmpty() ? 1 : breaks(0, 0);
        for (int s = 0; s <= row.size(); s++) {
            for (int e = s; e <= row.size(); e++) {
                boolean broken = (places >> s & 1) == 1 && (places >> e & 1) == 1;
                if (broken && compared(row.subList(s, e), texts.get(1), level) == 0) {
                    return 32 * s + e;
                }
            }
        }
        return -1;
    }
}
