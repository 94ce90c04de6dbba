/**
 * Texts in a script whose characters are described by the caller: normal forms, upper and lower
 * case, clusters and words, order on the page, sort keys, comparison and search.
 */
public final class ScriptText {
    private static final int NONE = -1;
    private static final int CHARACTERS = 48;
    private static final int TEXTS = 2;
    private static final int TEXT_LIMIT = 16;
    private static final int BOTH_TEXTS = 32;

    /** A character decomposes into at most 4, so a text's form has at most 16 times that. */
    private static final int SHARE_LIMIT = 4;
    private static final int FORM_LIMIT = 64;
    private static final int BOTH_FORMS = 128;

    /** An expansion makes two elements of one character of a form. */
    private static final int ELEMENT_LIMIT = 128;
    private static final int BOTH_ELEMENTS = 256;

    private static final int CONTRACTION_LIMIT = 6;
    private static final int WEIGHTS = 144;

    private static final int SET_CLASS = 0;
    private static final int SET_CANONICAL = 1;
    private static final int SET_COMPATIBLE = 2;
    private static final int SET_NO_DECOMPOSITION = 3;
    private static final int SET_EXCLUDED = 4;
    private static final int SET_LOWER = 5;
    private static final int SET_UPPER = 6;
    private static final int SET_FINAL = 7;
    private static final int SET_KIND = 8;
    private static final int SET_WEIGHTS = 9;
    private static final int SET_EXPANSION = 10;
    private static final int SET_NO_EXPANSION = 11;
    private static final int SET_CONTRACTION = 12;
    private static final int SET_NO_CONTRACTION = 13;
    private static final int SET_DIRECTION = 14;

    private static final int CANONICAL = 1;
    private static final int COMPATIBLE = 2;

    private static final int CASE_LOWER = 0;
    private static final int CASE_UPPER = 1;
    private static final int CASE_TITLE = 2;

    private static final int CLUSTERS = 0;
    private static final int WORDS = 1;

    private static final int CONTROL = 1;
    private static final int EXTEND = 2;
    private static final int PREPEND = 3;
    private static final int LETTER = 4;
    private static final int DIGIT = 5;
    private static final int MIDDLE = 6;
    private static final int JOINER = 7;

    private static final int LEFT = 0;
    private static final int RIGHT = 1;
    private static final int NUMBER = 2;
    private static final int NEUTRAL = 3;
    private static final int BEGIN_RIGHT = 4;
    private static final int BEGIN_LEFT = 5;
    private static final int END_EMBEDDING = 6;
    private static final int EMBEDDING_LIMIT = 6;
    /** A NUMBER stands two above an even embedding level. */
    private static final int LEVEL_LIMIT = 8;

    private static final int BY_CHARACTERS = 4;
    private static final int NO_SUCH_LEVEL = 2;

    private final int[] classes = new int[CHARACTERS];
    private final int[] decompositionTypes = new int[CHARACTERS];
    private final int[] decompositionFirsts = new int[CHARACTERS];
    private final int[] decompositionSeconds = new int[CHARACTERS];
    private final boolean[] exclusions = new boolean[CHARACTERS];
    private final int[] lowers = new int[CHARACTERS];
    private final int[] upperFirsts = new int[CHARACTERS];
    private final int[] upperSeconds = new int[CHARACTERS];
    private final int[] finals = new int[CHARACTERS];
    private final int[] kinds = new int[CHARACTERS];
    private final int[] expansionFirsts = new int[CHARACTERS];
    private final int[] expansionSeconds = new int[CHARACTERS];
    private final int[] directions = new int[CHARACTERS];
    /** The primary weights of all characters, then the secondary, then the tertiary ones. */
    private final int[] weights = new int[WEIGHTS];

    private final int[] contractionFirsts = new int[CONTRACTION_LIMIT];
    private final int[] contractionSeconds = new int[CONTRACTION_LIMIT];
    private final int[] contractionMeanings = new int[CONTRACTION_LIMIT];
    private int contractionCount = 0;

    private final int[] texts = new int[BOTH_TEXTS];
    private final int[] lengths = new int[TEXTS];
    private final int[] resultRow = new int[FORM_LIMIT];
    private int resultLength = 0;

    /** What is being made; it becomes the result only where a promise says so. */
    private final int[] work = new int[FORM_LIMIT];
    private int workLength = 0;
    private final int[] shares = new int[CHARACTERS];

    /** Two sides are compared; an element is held as the character whose own weights it has. */
    private final int[] forms = new int[BOTH_FORMS];
    private final int[] formLengths = new int[TEXTS];
    private final int[] elements = new int[BOTH_ELEMENTS];
    private final int[] elementCounts = new int[TEXTS];
    private final int[] keys = new int[BOTH_ELEMENTS];
    private final int[] keyLengths = new int[TEXTS];

    private final int[] embeddings = new int[TEXT_LIMIT];
    private final int[] outerEmbeddings = new int[TEXT_LIMIT];
    private final int[] bearings = new int[TEXT_LIMIT];
    private final int[] pageLevels = new int[TEXT_LIMIT];
    private final int[] pageOrder = new int[TEXT_LIMIT];

    public ScriptText() {
        for (int c = 0; c < CHARACTERS; c++) {
            decompositionSeconds[c] = NONE;
            lowers[c] = c;
            upperFirsts[c] = c;
            upperSeconds[c] = NONE;
            finals[c] = NONE;
            expansionFirsts[c] = NONE;
            expansionSeconds[c] = NONE;
            weights[c] = c + 1;
            weights[CHARACTERS + c] = 1;
            weights[2 * CHARACTERS + c] = 1;
        }
    }

    public boolean describe(int c, int what, int a, int b) {
        if (!isCharacter(c) || !operandsFit(c, what, a, b)) {
            return false;
        }
        if (what == SET_CANONICAL || what == SET_COMPATIBLE) {
            return setDecomposition(c, what == SET_CANONICAL ? CANONICAL : COMPATIBLE, a, b);
        }
        if (what == SET_CONTRACTION) {
            return setContraction(c, a, b);
        }
        if (what == SET_NO_CONTRACTION) {
            removeContraction(c, a);
            return true;
        }
        setProperty(c, what, a, b);
        return true;
    }

    public boolean insert(int text, int at, int c) {
        if (!isText(text) || !isCharacter(c)) {
            return false;
        }
        int length = lengths[text];
        if (at < 0 || at > length || length >= TEXT_LIMIT) {
            return false;
        }
        int start = text * TEXT_LIMIT;
        for (int i = length; i > at; i--) {
            texts[start + i] = texts[start + i - 1];
        }
        texts[start + at] = c;
        lengths[text] = length + 1;
        return true;
    }

    public boolean erase(int text, int at) {
        if (!hasCharacterAt(text, at)) {
            return false;
        }
        int start = text * TEXT_LIMIT;
        int last = lengths[text] - 1;
        for (int i = at; i < last; i++) {
            texts[start + i] = texts[start + i + 1];
        }
        lengths[text] = last;
        return true;
    }

    public int normal(int text, int form) {
        if (!isText(text) || !isForm(form)) {
            return NONE;
        }
        makeForm(text, 0, lengths[text], form);
        return workBecomesResult();
    }

    public boolean isNormal(int text, int form) {
        if (!isText(text) || !isForm(form)) {
            return false;
        }
        makeForm(text, 0, lengths[text], form);
        if (workLength != lengths[text]) {
            return false;
        }
        int start = text * TEXT_LIMIT;
        for (int i = 0; i < lengths[text]; i++) {
            if (work[i] != texts[start + i]) {
                return false;
            }
        }
        return true;
    }

    public int cased(int text, int how) {
        if (!isText(text) || how < 0 || how > 3) {
            return NONE;
        }
        workLength = 0;
        if (how == CASE_LOWER) {
            makeLower(text);
        } else if (how == CASE_UPPER) {
            makeUpper(text);
        } else if (how == CASE_TITLE) {
            makeTitle(text);
        } else {
            makeFolded(text);
        }
        return workBecomesResult();
    }

    public int result(int k) {
        return k >= 0 && k < resultLength ? resultRow[k] : NONE;
    }

    public boolean take(int text) {
        if (!isText(text) || resultLength > TEXT_LIMIT) {
            return false;
        }
        int start = text * TEXT_LIMIT;
        for (int i = 0; i < resultLength; i++) {
            texts[start + i] = resultRow[i];
        }
        lengths[text] = resultLength;
        return true;
    }

    public int breaks(int text, int kind) {
        if (!isText(text) || kind != CLUSTERS && kind != WORDS) {
            return 0;
        }
        return findBreaks(text, kind);
    }

    public int level(int text, int base, int at) {
        if (!hasCharacterAt(text, at) || !isBase(base)) {
            return NONE;
        }
        findLevels(text, base);
        return pageLevels[at];
    }

    public int onPage(int text, int base, int k) {
        if (!hasCharacterAt(text, k) || !isBase(base)) {
            return NONE;
        }
        findLevels(text, base);
        int length = lengths[text];
        for (int i = 0; i < length; i++) {
            pageOrder[i] = i;
        }
        for (int least = LEVEL_LIMIT; least >= 1; least--) {
            reverseRows(length, least);
        }
        return pageOrder[k];
    }

    public int key(int text, int level, int k) {
        if (!isText(text) || level < 1 || level > 3 || k < 0) {
            return 0;
        }
        loadSide(0, text, 0, lengths[text]);
        loadKey(0, level);
        return k < keyLengths[0] ? keys[k] : 0;
    }

    public int compare(int level) {
        if (!isStrength(level)) {
            return NO_SUCH_LEVEL;
        }
        loadSide(0, 0, 0, lengths[0]);
        loadSide(1, 1, 0, lengths[1]);
        return compareSides(level);
    }

    public int search(int level) {
        if (!isStrength(level)) {
            return NONE;
        }
        int length = lengths[0];
        int places = length == 0 ? 1 : findBreaks(0, CLUSTERS);
        loadSide(1, 1, 0, lengths[1]);
        for (int s = 0; s <= length; s++) {
            int e = isIn(places, s) ? firstMatchEnd(s, places, level) : NONE;
            if (e != NONE) {
                return 32 * s + e;
            }
        }
        return NONE;
    }

    // What the arguments may be

    private boolean isCharacter(int c) {
        return c >= 0 && c < CHARACTERS;
    }

    private boolean isText(int text) {
        return text >= 0 && text < TEXTS;
    }

    private boolean isForm(int form) {
        return form >= 0 && form <= 3;
    }

    private boolean isBase(int base) {
        return base == 0 || base == 1;
    }

    private boolean isStrength(int level) {
        return level >= 1 && level <= BY_CHARACTERS;
    }

    private boolean hasCharacterAt(int text, int at) {
        return isText(text) && at >= 0 && at < lengths[text];
    }

    private boolean isWithin(int number, int least, int greatest) {
        return number >= least && number <= greatest;
    }

    private boolean isIn(int places, int place) {
        return (places >> place & 1) == 1;
    }

    // Descriptions

    private boolean operandsFit(int c, int what, int a, int b) {
        switch (what) {
            case SET_CLASS:
                return isWithin(a, 0, 9);
            case SET_CANONICAL:
            case SET_COMPATIBLE:
                return isWithin(a, 0, c - 1) && isWithin(b, NONE, c - 1);
            case SET_NO_DECOMPOSITION:
            case SET_NO_EXPANSION:
                return true;
            case SET_EXCLUDED:
                return isWithin(a, 0, 1);
            case SET_LOWER:
            case SET_NO_CONTRACTION:
                return isCharacter(a);
            case SET_UPPER:
                return isCharacter(a) && (b == NONE || isCharacter(b));
            case SET_FINAL:
                return a == NONE || isCharacter(a);
            case SET_KIND:
                return isWithin(a, 0, JOINER);
            case SET_WEIGHTS:
                return isWithin(a, 0, 99) && isWithin(b, 0, 99);
            case SET_EXPANSION:
            case SET_CONTRACTION:
                return isCharacter(a) && isCharacter(b);
            case SET_DIRECTION:
                return isWithin(a, 0, END_EMBEDDING);
            default:
                return false;
        }
    }

    private void setProperty(int c, int what, int a, int b) {
        switch (what) {
            case SET_CLASS:
                classes[c] = a;
                break;
            case SET_NO_DECOMPOSITION:
                decompositionTypes[c] = 0;
                break;
            case SET_EXCLUDED:
                exclusions[c] = a == 1;
                break;
            case SET_LOWER:
                lowers[c] = a;
                break;
            case SET_UPPER:
                upperFirsts[c] = a;
                upperSeconds[c] = b;
                break;
            case SET_FINAL:
                finals[c] = a;
                break;
            case SET_KIND:
                kinds[c] = a;
                break;
            case SET_WEIGHTS:
                setWeights(c, a, b);
                break;
            case SET_EXPANSION:
                expansionFirsts[c] = a;
                expansionSeconds[c] = b;
                break;
            case SET_NO_EXPANSION:
                expansionFirsts[c] = NONE;
                expansionSeconds[c] = NONE;
                break;
            case SET_DIRECTION:
                directions[c] = a;
                break;
            default:
                break;
        }
    }

    private void setWeights(int c, int primary, int others) {
        weights[c] = primary;
        weights[CHARACTERS + c] = others / 10;
        weights[2 * CHARACTERS + c] = others % 10;
    }

    private boolean setDecomposition(int c, int type, int first, int second) {
        if (!sharesStaySmall(c, first, second)) {
            return false;
        }
        decompositionTypes[c] = type;
        decompositionFirsts[c] = first;
        decompositionSeconds[c] = second;
        return true;
    }

    /** Every character is counted, because those above c may decompose into c. */
    private boolean sharesStaySmall(int c, int first, int second) {
        for (int x = 0; x < CHARACTERS; x++) {
            if (x == c) {
                shares[x] = shareOf(first, second);
            } else if (decompositionTypes[x] == 0) {
                shares[x] = 1;
            } else {
                shares[x] = shareOf(decompositionFirsts[x], decompositionSeconds[x]);
            }
            if (shares[x] > SHARE_LIMIT) {
                return false;
            }
        }
        return true;
    }

    private int shareOf(int first, int second) {
        return second == NONE ? shares[first] : shares[first] + shares[second];
    }

    private int findContraction(int first, int second) {
        for (int i = 0; i < contractionCount; i++) {
            if (contractionFirsts[i] == first && contractionSeconds[i] == second) {
                return i;
            }
        }
        return NONE;
    }

    private boolean setContraction(int first, int second, int meaning) {
        int at = findContraction(first, second);
        if (at == NONE) {
            if (contractionCount >= CONTRACTION_LIMIT) {
                return false;
            }
            at = contractionCount;
            contractionCount++;
        }
        contractionFirsts[at] = first;
        contractionSeconds[at] = second;
        contractionMeanings[at] = meaning;
        return true;
    }

    private void removeContraction(int first, int second) {
        int at = findContraction(first, second);
        if (at == NONE) {
            return;
        }
        contractionCount--;
        contractionFirsts[at] = contractionFirsts[contractionCount];
        contractionSeconds[at] = contractionSeconds[contractionCount];
        contractionMeanings[at] = contractionMeanings[contractionCount];
    }

    // The row that is being made

    private void appendToWork(int c) {
        if (workLength < FORM_LIMIT) {
            work[workLength] = c;
            workLength++;
        }
    }

    private int workBecomesResult() {
        for (int i = 0; i < workLength; i++) {
            resultRow[i] = work[i];
        }
        resultLength = workLength;
        return resultLength;
    }

    // Normal forms

    private void makeForm(int text, int from, int to, int form) {
        workLength = 0;
        int start = text * TEXT_LIMIT;
        for (int i = from; i < to; i++) {
            appendToWork(texts[start + i]);
        }
        decomposeWork(form >= 2 ? COMPATIBLE : CANONICAL);
        orderWork();
        if (form == 1 || form == 3) {
            composeWork();
        }
    }

    private void decomposeWork(int widestType) {
        for (int i = 0; i < FORM_LIMIT && i < workLength; i++) {
            // Each replacement leaves a lower number here, so there are fewer than the characters.
            for (int step = 0; step < CHARACTERS; step++) {
                int type = decompositionTypes[work[i]];
                if (type == 0 || type > widestType) {
                    break;
                }
                replaceByDecomposition(i);
            }
        }
    }

    private void replaceByDecomposition(int at) {
        int c = work[at];
        work[at] = decompositionFirsts[c];
        if (decompositionSeconds[c] != NONE && workLength < FORM_LIMIT) {
            for (int i = workLength; i > at + 1; i--) {
                work[i] = work[i - 1];
            }
            work[at + 1] = decompositionSeconds[c];
            workLength++;
        }
    }

    private void orderWork() {
        for (int i = 1; i < workLength; i++) {
            int moving = work[i];
            int place = i;
            if (classes[moving] > 0) {
                for (int j = i; j > 0 && classes[work[j - 1]] > classes[moving]; j--) {
                    work[j] = work[j - 1];
                    place = j - 1;
                }
            }
            work[place] = moving;
        }
    }

    private void composeWork() {
        int kept = 0;
        for (int i = 0; i < workLength; i++) {
            int x = work[i];
            int starter = lastOfClassZero(kept);
            int whole = starter == NONE ? NONE : findComposite(work[starter], x);
            if (whole != NONE && isOpenBetween(starter, kept, x)) {
                work[starter] = whole;
            } else {
                work[kept] = x;
                kept++;
            }
        }
        workLength = kept;
    }

    /** Looked up anew each time, because a composed character need not have class 0. */
    private int lastOfClassZero(int end) {
        for (int i = end - 1; i >= 0; i--) {
            if (classes[work[i]] == 0) {
                return i;
            }
        }
        return NONE;
    }

    private int findComposite(int first, int second) {
        for (int c = 0; c < CHARACTERS; c++) {
            if (decompositionTypes[c] == CANONICAL && !exclusions[c]
                    && decompositionFirsts[c] == first && decompositionSeconds[c] == second) {
                return c;
            }
        }
        return NONE;
    }

    private boolean isOpenBetween(int starter, int end, int x) {
        for (int i = starter + 1; i < end; i++) {
            if (classes[work[i]] >= classes[x]) {
                return false;
            }
        }
        return true;
    }

    // Case

    private void makeLower(int text) {
        for (int i = 0; i < lengths[text]; i++) {
            appendLower(text, i);
        }
    }

    private void makeUpper(int text) {
        for (int i = 0; i < lengths[text]; i++) {
            appendUpper(text, i);
        }
    }

    private void makeTitle(int text) {
        int words = findBreaks(text, WORDS);
        boolean letterDue = false;
        for (int i = 0; i < lengths[text]; i++) {
            if (isIn(words, i)) {
                letterDue = true;
            }
            if (letterDue && kindAt(text, i) == LETTER) {
                appendUpper(text, i);
                letterDue = false;
            } else {
                appendLower(text, i);
            }
        }
    }

    private void makeFolded(int text) {
        makeUpper(text);
        for (int i = 0; i < workLength; i++) {
            work[i] = lowers[work[i]];
        }
    }

    private void appendLower(int text, int at) {
        int c = texts[text * TEXT_LIMIT + at];
        if (finals[c] != NONE && standsFinally(text, at)) {
            appendToWork(finals[c]);
        } else {
            appendToWork(lowers[c]);
        }
    }

    private void appendUpper(int text, int at) {
        int c = texts[text * TEXT_LIMIT + at];
        appendToWork(upperFirsts[c]);
        if (upperSeconds[c] != NONE) {
            appendToWork(upperSeconds[c]);
        }
    }

    private boolean standsFinally(int text, int at) {
        return isLetterBefore(text, at) && !isLetterBehind(text, at);
    }

    private boolean isLetterBefore(int text, int at) {
        for (int i = at - 1; i >= 0; i--) {
            int kind = kindAt(text, i);
            if (kind != MIDDLE && kind != EXTEND) {
                return kind == LETTER;
            }
        }
        return false;
    }

    private boolean isLetterBehind(int text, int at) {
        for (int i = at + 1; i < lengths[text]; i++) {
            int kind = kindAt(text, i);
            if (kind != MIDDLE && kind != EXTEND) {
                return kind == LETTER;
            }
        }
        return false;
    }

    // Clusters and words

    private int kindAt(int text, int at) {
        return kinds[texts[text * TEXT_LIMIT + at]];
    }

    private int findBreaks(int text, int kind) {
        int length = lengths[text];
        int places = length > 0 ? 1 | 1 << length : 0;
        for (int at = 1; at < length; at++) {
            boolean isBroken = kind == CLUSTERS ? breaksCluster(text, at) : breaksWord(text, at);
            if (isBroken) {
                places |= 1 << at;
            }
        }
        return places;
    }

    private boolean breaksCluster(int text, int at) {
        int x = kindAt(text, at - 1);
        int y = kindAt(text, at);
        if (y == EXTEND) {
            return x == CONTROL;
        }
        return x != PREPEND || y == CONTROL;
    }

    private boolean breaksWord(int text, int at) {
        int y = kindAt(text, at);
        if (y == EXTEND) {
            return kindAt(text, at - 1) == CONTROL;
        }
        int placeOfX = wordCharacterUpTo(text, at - 1);
        int x = kindAt(text, placeOfX);
        int w = NONE;
        if (placeOfX > 0) {
            int placeOfW = wordCharacterUpTo(text, placeOfX - 1);
            w = kindAt(text, placeOfW);
        }
        int z = kindBehind(text, at);
        return !isJoined(x, y) && !isBridged(x, y, z) && !isBridged(w, x, y);
    }

    /** An EXTEND found here would be OTHER; its kind is left, because no rule names either. */
    private int wordCharacterUpTo(int text, int at) {
        for (int i = at; i > 0; i--) {
            if (kindAt(text, i) != EXTEND || kindAt(text, i - 1) == CONTROL) {
                return i;
            }
        }
        return 0;
    }

    private int kindBehind(int text, int at) {
        for (int i = at + 1; i < lengths[text]; i++) {
            int kind = kindAt(text, i);
            if (kind != EXTEND) {
                return kind;
            }
        }
        return NONE;
    }

    private boolean isJoined(int x, int y) {
        boolean xCounts = x == LETTER || x == DIGIT;
        boolean yCounts = y == LETTER || y == DIGIT;
        if (x == JOINER) {
            return yCounts || y == JOINER;
        }
        return xCounts && (yCounts || y == JOINER);
    }

    private boolean isBridged(int before, int between, int behind) {
        return between == MIDDLE && before == behind && (before == LETTER || before == DIGIT);
    }

    // Order on the page

    private void findLevels(int text, int base) {
        findEmbeddings(text, base);
        int length = lengths[text];
        int start = 0;
        for (int i = 1; i <= length; i++) {
            if (i == length || embeddings[i] != embeddings[start]) {
                findRunLevels(start, i, length, base);
                start = i;
            }
        }
    }

    private void findEmbeddings(int text, int base) {
        int current = base;
        int open = 0;
        for (int i = 0; i < lengths[text]; i++) {
            int direction = directions[texts[text * TEXT_LIMIT + i]];
            embeddings[i] = current;
            bearings[i] = direction < NEUTRAL ? direction : NEUTRAL;
            if (direction == BEGIN_RIGHT || direction == BEGIN_LEFT) {
                outerEmbeddings[open] = current;
                open++;
                current = innerEmbedding(current, direction);
            } else if (direction == END_EMBEDDING && open > 0) {
                open--;
                current = outerEmbeddings[open];
                embeddings[i] = current;
            }
        }
    }

    private int innerEmbedding(int outer, int direction) {
        boolean wantsOdd = direction == BEGIN_RIGHT;
        boolean isOdd = outer % 2 == 1;
        int inner = wantsOdd == isOdd ? outer + 2 : outer + 1;
        return inner > EMBEDDING_LIMIT ? outer : inner;
    }

    private void findRunLevels(int start, int end, int length, int base) {
        int own = embeddings[start];
        int before = start > 0 ? embeddings[start - 1] : base;
        int behind = end < length ? embeddings[end] : base;
        int bearingBefore = bearingOf(before > own ? before : own);
        int bearingBehind = bearingOf(behind > own ? behind : own);
        settleNumbers(start, end, bearingBefore);
        settleNeutrals(start, end, bearingBefore, bearingBehind);
        for (int i = start; i < end; i++) {
            pageLevels[i] = levelFor(own, bearings[i]);
        }
    }

    private int bearingOf(int level) {
        return level % 2 == 1 ? RIGHT : LEFT;
    }

    private void settleNumbers(int start, int end, int bearingBefore) {
        int last = bearingBefore;
        for (int i = start; i < end; i++) {
            if (bearings[i] == NUMBER && last == LEFT) {
                bearings[i] = LEFT;
            } else if (bearings[i] == LEFT || bearings[i] == RIGHT) {
                last = bearings[i];
            }
        }
    }

    private void settleNeutrals(int start, int end, int bearingBefore, int bearingBehind) {
        int before = bearingBefore;
        for (int i = start; i < end; i++) {
            if (bearings[i] == NEUTRAL) {
                int rowEnd = neutralRowEnd(i, end);
                int behind = rowEnd < end ? asSide(bearings[rowEnd]) : bearingBehind;
                int bearing = before == behind ? before : bearingOf(embeddings[i]);
                for (int j = i; j < rowEnd; j++) {
                    bearings[j] = bearing;
                }
            }
            before = asSide(bearings[i]);
        }
    }

    private int neutralRowEnd(int from, int end) {
        for (int i = from; i < end; i++) {
            if (bearings[i] != NEUTRAL) {
                return i;
            }
        }
        return end;
    }

    private int asSide(int bearing) {
        return bearing == NUMBER ? RIGHT : bearing;
    }

    private int levelFor(int embedding, int bearing) {
        if (embedding % 2 == 1) {
            return bearing == RIGHT ? embedding : embedding + 1;
        }
        if (bearing == NUMBER) {
            return embedding + 2;
        }
        return bearing == RIGHT ? embedding + 1 : embedding;
    }

    private void reverseRows(int length, int least) {
        int start = 0;
        for (int i = 0; i <= length; i++) {
            if (i == length || pageLevels[pageOrder[i]] < least) {
                reverseRow(start, i);
                start = i + 1;
            }
        }
    }

    private void reverseRow(int start, int end) {
        int half = (end - start) / 2;
        for (int i = 0; i < half; i++) {
            int held = pageOrder[start + i];
            pageOrder[start + i] = pageOrder[end - 1 - i];
            pageOrder[end - 1 - i] = held;
        }
    }

    // Sorting

    private void loadSide(int side, int text, int from, int to) {
        makeForm(text, from, to, 0);
        int start = side * FORM_LIMIT;
        for (int i = 0; i < workLength; i++) {
            forms[start + i] = work[i];
        }
        formLengths[side] = workLength;
        loadElements(side);
    }

    private void loadElements(int side) {
        elementCounts[side] = 0;
        boolean isTaken = false;
        for (int i = 0; i < workLength; i++) {
            if (isTaken) {
                isTaken = false;
                continue;
            }
            int c = work[i];
            int contraction = i + 1 < workLength ? findContraction(c, work[i + 1]) : NONE;
            if (contraction != NONE) {
                appendElement(side, contractionMeanings[contraction]);
                isTaken = true;
            } else if (expansionFirsts[c] != NONE) {
                appendElement(side, expansionFirsts[c]);
                appendElement(side, expansionSeconds[c]);
            } else {
                appendElement(side, c);
            }
        }
    }

    private void appendElement(int side, int c) {
        if (elementCounts[side] < ELEMENT_LIMIT) {
            elements[side * ELEMENT_LIMIT + elementCounts[side]] = c;
            elementCounts[side]++;
        }
    }

    private void loadKey(int side, int level) {
        int start = side * ELEMENT_LIMIT;
        int count = 0;
        for (int i = 0; i < elementCounts[side]; i++) {
            int weight = weights[(level - 1) * CHARACTERS + elements[start + i]];
            if (weight != 0) {
                keys[start + count] = weight;
                count++;
            }
        }
        keyLengths[side] = count;
    }

    private int compareSides(int level) {
        for (int l = 1; l < BY_CHARACTERS && l <= level; l++) {
            loadKey(0, l);
            loadKey(1, l);
            int order = compareRows(keys, keyLengths, ELEMENT_LIMIT);
            if (order != 0) {
                return order;
            }
        }
        return level == BY_CHARACTERS ? compareRows(forms, formLengths, FORM_LIMIT) : 0;
    }

    /** The second row begins where the first one's room ends. */
    private int compareRows(int[] rows, int[] rowLengths, int room) {
        for (int i = 0; i < room && i < rowLengths[0] && i < rowLengths[1]; i++) {
            if (rows[i] != rows[room + i]) {
                return rows[i] < rows[room + i] ? -1 : 1;
            }
        }
        if (rowLengths[0] == rowLengths[1]) {
            return 0;
        }
        return rowLengths[0] < rowLengths[1] ? -1 : 1;
    }

    private int firstMatchEnd(int s, int places, int level) {
        for (int e = s; e <= lengths[0]; e++) {
            if (isIn(places, e)) {
                loadSide(0, 0, s, e);
                int order = compareSides(level);
                if (order == 0) {
                    return e;
                }
            }
        }
        return NONE;
    }
}
