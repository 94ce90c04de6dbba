import java.util.Random;

/** Made-up runs of at most 512 calls, always the same ones, each answer held against Model's. */
public final class ModelTest {
    private static final int RUNS = 3000;
    private static final int CALLS = 512;
    /** The most that one step makes without looking at how many are left. */
    private static final int CALLS_OF_A_STEP = 3;
    private static final int[] STRANGE = {-2, -1, 48, 99, 100, Integer.MAX_VALUE, Integer.MIN_VALUE};

    private final Due due;
    private final Random random;
    private final ScriptText x = new ScriptText();
    private final Model model = new Model();
    /** Runs with few characters meet more of each other's descriptions. */
    private final int characters;
    private int calls = 0;

    private ModelTest(Due due, int run) {
        this.due = due;
        random = new Random(run);
        characters = run % 4 == 0 ? 48 : 6 + run % 11;
    }

    public static void main(String[] args) {
        Due due = new Due();
        for (int run = 0; run < RUNS && due.allRight(); run++) {
            new ModelTest(due, run).run("run " + run + ": ");
        }
        due.end("ModelTest");
    }

    private void run(String name) {
        int focus = random.nextInt(6);
        int describing = 10 + random.nextInt(60);
        while (calls < describing) {
            describe(name, focus);
        }
        while (calls + CALLS_OF_A_STEP <= CALLS && due.allRight()) {
            int next = random.nextInt(20);
            if (next < 2) {
                describe(name, focus);
            } else if (next < 8) {
                change(name);
            } else {
                ask(name, focus);
            }
        }
    }

    private int below(int bound) {
        return random.nextInt(60) == 0 ? STRANGE[random.nextInt(STRANGE.length)] : random.nextInt(bound);
    }

    private int character() {
        return below(characters);
    }

    private void asked(String call, long got, long want) {
        calls++;
        due.is(call, got, want);
    }

    private static int number(boolean answer) {
        return answer ? 1 : 0;
    }

    private void describe(String name, int focus) {
        int[][] whats = {
            {0, 0, 1, 1, 1, 2, 3, 4}, {5, 6, 7, 8, 8, 8}, {8, 8, 5, 6}, {14}, {0, 1, 8, 9, 9, 10, 11, 12, 12, 13},
            {0, 1, 2, 3, 4, 5, 6, 7, 8, 9, 10, 11, 12, 13, 14},
        };
        int what = random.nextInt(100) == 0 ? below(16) : whats[focus][random.nextInt(whats[focus].length)];
        int c = character();
        int a = character();
        int b = character();
        if (what == 0) {
            a = below(random.nextBoolean() ? 4 : 11);
        } else if (what == 1 || what == 2) {
            a = c > 0 && c < 48 ? below(c) : a;
            b = random.nextInt(4) == 0 || c <= 0 || c >= 48 ? -1 : below(c);
        } else if (what == 4) {
            a = below(2);
        } else if (what == 6) {
            b = random.nextBoolean() ? -1 : b;
        } else if (what == 7) {
            a = random.nextInt(4) == 0 ? -1 : a;
        } else if (what == 8) {
            a = below(8);
        } else if (what == 9) {
            a = random.nextInt(3) == 0 ? 0 : below(5);
            b = 10 * random.nextInt(3) + below(3);
        } else if (what == 14) {
            a = below(7);
        }
        String call = name + "describe(" + c + ", " + what + ", " + a + ", " + b + ")";
        asked(call, number(x.describe(c, what, a, b)), number(model.describe(c, what, a, b)));
    }

    private void change(String name) {
        int text = below(2);
        int at = below(9);
        int c = character();
        int which = random.nextInt(24);
        if (which < 20) {
            asked(name + "insert(" + text + ", " + at + ", " + c + ")",
                number(x.insert(text, at, c)), number(model.insert(text, at, c)));
        } else if (which < 23) {
            asked(name + "erase(" + text + ", " + at + ")", number(x.erase(text, at)), number(model.erase(text, at)));
        } else {
            asked(name + "take(" + text + ")", number(x.take(text)), number(model.take(text)));
        }
    }

    private void ask(String name, int focus) {
        int which = random.nextInt(3) == 0 ? random.nextInt(6) : focus;
        if (which == 0) {
            askNormal(name);
        } else if (which == 1) {
            askCased(name);
        } else if (which == 2) {
            int text = below(2);
            int kind = below(2);
            asked(name + "breaks(" + text + ", " + kind + ")", x.breaks(text, kind), model.breaks(text, kind));
        } else if (which == 3) {
            askPage(name);
        } else {
            askOrder(name);
        }
    }

    private void askNormal(String name) {
        int text = below(2);
        int form = below(4);
        if (random.nextBoolean()) {
            asked(name + "isNormal(" + text + ", " + form + ")",
                number(x.isNormal(text, form)), number(model.isNormal(text, form)));
        } else {
            asked(name + "normal(" + text + ", " + form + ")", x.normal(text, form), model.normal(text, form));
            askResult(name);
        }
    }

    private void askCased(String name) {
        int text = below(2);
        int how = below(4);
        asked(name + "cased(" + text + ", " + how + ")", x.cased(text, how), model.cased(text, how));
        askResult(name);
    }

    private void askResult(String name) {
        for (int k = -1; k < 70 && calls < CALLS; k++) {
            int got = x.result(k);
            asked(name + "result(" + k + ")", got, model.result(k));
            if (k >= 0 && got == -1) {
                break;
            }
        }
    }

    private void askPage(String name) {
        int text = below(2);
        int base = below(2);
        for (int at = 0; at < 17 && calls + 1 < CALLS; at++) {
            int got = x.level(text, base, at);
            asked(name + "level(" + text + ", " + base + ", " + at + ")", got, model.level(text, base, at));
            asked(name + "onPage(" + text + ", " + base + ", " + at + ")",
                x.onPage(text, base, at), model.onPage(text, base, at));
            if (got == -1) {
                break;
            }
        }
    }

    private void askOrder(String name) {
        int level = random.nextInt(20) == 0 ? below(6) : 1 + random.nextInt(4);
        asked(name + "compare(" + level + ")", x.compare(level), model.compare(level));
        asked(name + "search(" + level + ")", x.search(level), model.search(level));
        int text = below(2);
        int k = below(20);
        asked(name + "key(" + text + ", " + level + ", " + k + ")", x.key(text, level, k), model.key(text, level, k));
    }
}
