import java.util.Random;

/**
 * Calls in any order with numbers from both ends of int and long among the fitting ones, each held
 * against PlainJury: whatever is refused, skipped or told too early must leave both alike.
 */
public final class WildTest {
    private static final int COURSES = 600;
    private static final int CALLS = 490;
    private static final int METHODS = 36;
    private static final int[] ENDS = {Integer.MIN_VALUE, Integer.MIN_VALUE + 1, -1000, -16, -3, -2, -1, 7, 8, 9, 10, 11, 12, 13, 14, 15,
        16, 39, 40, 41, 50, 160, 900, 901, 1000, 1001, 1 << 16, 1 << 24, Integer.MAX_VALUE - 1, Integer.MAX_VALUE};
    private static final String[] TEXTS = {"room a least 0;", "room b least 1 light 2;", "near a b within 3;", "apart a b by 2;", "rate a 7;",
        "wall 3;", "way 4;", "stair 5;", "cost most 5000 span 20;", "out if dark>1 and not late=0;", "out if cells<2 or cost>9000;",
        "close 5;", "keep 1;", "keep 2;", "vote rank;", "vote pair;", "tie head;", "fee 1 50 100;", "bo", "is it bo", "how high?", "?", ""};

    private final Random random;
    private final BuildingJury x = new BuildingJury();
    private final PlainJury y = new PlainJury();
    private final int seed;
    private int calls = 0;

    private WildTest(int seed) {
        this.seed = seed;
        this.random = new Random(seed);
    }

    public static void main(String[] args) {
        for (int seed = 1; seed <= COURSES; seed++) {
            new WildTest(seed).course();
        }
        Due.end();
    }

    private void course() {
        while (calls < CALLS) {
            one(random.nextInt(METHODS + 14));
        }
    }

    private int upTo(int most) {
        return random.nextInt(most + 1);
    }

    /** From a least to a greatest number, or one of the ends. */
    private int any(int least, int most) {
        return random.nextInt(9) == 0 ? ENDS[random.nextInt(ENDS.length)] : least + upTo(most - least);
    }

    private int day() {
        return any(0, y.today + 2);
    }

    private int scheme() {
        return any(0, Math.max(0, y.plans.size() - 1));
    }

    private int juror() {
        return any(0, Math.max(0, y.jurors.size() - 1));
    }

    private void same(String call, long got, long want) {
        calls++;
        Due.due("wild " + seed + "." + calls + ": " + call, got, want);
    }

    private void same(String call, boolean got, boolean want) {
        same(call, got ? 1 : 0, want ? 1 : 0);
    }

    private void one(int method) {
        if (method < 9) {
            texts(method);
        } else if (method < 20) {
            schemes(method);
        } else if (method < 30) {
            jurors(method);
        } else if (method < METHODS) {
            rounds(method);
        } else if (method < METHODS + 6) {
            drawing();
        } else {
            marking();
        }
    }

    /** Puts a text on both tapes; how much of the tape to take. */
    private int tape(String text) {
        int n = text.length();
        for (int i = 0; i < n; i += 20) {
            int[] five = new int[5];
            for (int k = 0; k < 20; k++) {
                five[k / 4] = five[k / 4] << 8 | (i + k < n ? text.charAt(i + k) : 32);
            }
            same("feed", x.feed(five[0], five[1], five[2], five[3], five[4]), y.feed(five));
        }
        return random.nextInt(9) == 0 ? any(0, y.tape.length()) : Math.min(n, y.tape.length());
    }

    private String text(int most) {
        StringBuilder text = new StringBuilder();
        for (int i = upTo(most); i > 0; i--) {
            text.append(TEXTS[random.nextInt(i % 9 == 8 ? TEXTS.length : 18)]);
        }
        return text.toString();
    }

    private void texts(int method) {
        int n;
        switch (method) {
            case 0 -> {
                int d = random.nextInt(3) == 0 ? any(y.today, y.today + 40) : any(y.today, y.today + 2);
                same("day", x.day(d), y.day(d));
            }
            case 1 -> {
                int a = random.nextInt();
                int b = any(0, 9);
                same("feed", x.feed(a, b, a, b, a), y.feed(a, b, a, b, a));
            }
            case 2 -> {
                n = tape(text(9));
                same("brief " + n, x.brief(n), y.brief(n));
                same("fault", x.fault(), y.fault());
            }
            case 3 -> {
                n = day();
                same("binds " + n, x.binds(n), y.binds(n));
            }
            case 4 -> {
                n = day();
                int what = random.nextBoolean() ? any(0, 12) : any(20, 33);
                same("law " + n + ", " + what, x.law(n, what), y.law(n, what));
            }
            case 5 -> {
                n = any(0, 3);
                int i = any(-1, 1);
                same("name " + n + ", " + i, x.name(n, i), y.name(n, i));
            }
            case 6 -> {
                n = any(0, 39);
                int take = tape(random.nextBoolean() ? "bo" : TEXTS[random.nextInt(TEXTS.length)]);
                same("calls " + n + ", " + take, x.calls(n, take), y.calls(n, take));
            }
            case 7 -> {
                int take = tape(TEXTS[15 + random.nextInt(TEXTS.length - 15)]);
                n = any(0, 9);
                same("ask " + take, x.ask(take, n), y.ask(take, n));
            }
            default -> {
                n = any(0, Math.max(0, y.answers.size() - 1));
                int what = any(0, 2);
                same("answered " + n + ", " + what, x.answered(n, what), y.answered(n, what));
            }
        }
    }

    private void schemes(int method) {
        int k = scheme();
        int a = any(0, method == 14 ? 9 : 3);
        int b = any(0, method == 14 ? 7 : 3);
        switch (method) {
            case 9 -> same("sun " + a + ", " + b, x.sun(a, b), y.sun(a, b));
            case 10, 11 -> {
                int author = any(0, 39);
                same("scheme " + author, x.scheme(author), y.scheme(author));
            }
            case 12 -> same("hand " + k, x.hand(k), y.hand(k));
            case 13 -> same("room " + k + ", " + a + ", " + b, x.room(k, a, b), y.room(k, a, b));
            case 14 -> {
                int storey = any(0, 1);
                same("cell " + k + ", " + storey + ", " + a + ", " + b, x.cell(k, storey, a, b), y.cell(k, storey, a, b));
            }
            case 15 -> same("steps " + k + ", " + a + ", " + b, x.steps(k, a, b), y.steps(k, a, b));
            case 16 -> {
                int d = day();
                same("cost " + k + ", " + d + ", " + a, x.cost(k, d, a), y.cost(k, d, a));
            }
            case 17 -> same("why " + k, x.why(k), y.why(k));
            case 18 -> same("mend " + k + ", " + a, x.mend(k, a), a < 0 || a > 4 ? -1 : y.mend(k)[a]);
            default -> {
                int other = scheme();
                same("alike " + k + ", " + other, x.alike(k, other), y.alike(k, other));
                same("most " + a, x.most(a), y.most(a));
            }
        }
    }

    private void jurors(int method) {
        int k = juror();
        int round = any(1, 2);
        switch (method) {
            case 20, 21 -> same("juror", x.juror(), y.juror());
            case 22 -> {
                int author = y.plans.isEmpty() ? any(0, 39) : y.plans.get(upTo(y.plans.size() - 1)).author;
                int d = random.nextInt(5) == 0 ? any(0, 1000) : any(y.today, y.today + 3);
                same("knows " + k + ", " + author + ", " + d, x.knows(k, author, d), y.knows(k, author, d));
            }
            case 23 -> {
                int author = any(0, 39);
                same("knows " + k + ", " + author, x.knows(k, author, 0), y.knows(k, author, 0));
            }
            case 24, 25 -> {
                long row = random.nextInt(4) == 0 ? random.nextLong() : ENDS[random.nextInt(ENDS.length)];
                same("marks " + k + ", " + row, x.marks(k, row), y.marks(k, row));
            }
            case 26, 27 -> same("voice " + round + ", " + k, x.voice(round, k), y.voice(round, k));
            default -> {
                int rule = any(0, 2);
                int scheme = scheme();
                same("points " + round + ", " + rule + ", " + scheme, x.points(round, rule, scheme), y.points(round, rule, scheme));
            }
        }
    }

    private void rounds(int method) {
        int k = scheme();
        switch (method) {
            case 30 -> {
                if (calls > CALLS / 3) {
                    same("open", x.open(), y.open());
                }
            }
            case 31 -> same("close", x.close(), y.close());
            case 32 -> {
                int round = any(1, 2);
                int rule = any(-1, 2);
                same("order " + round + ", " + rule + ", " + k, x.order(round, rule, k), y.order(round, rule, k));
            }
            case 33 -> {
                same("author " + k, x.author(k), y.author(k));
                same("winner", x.winner(), y.winner());
            }
            case 34 -> same("pay", x.pay(), y.pay());
            default -> {
                int what = any(0, 14);
                same("count " + what, x.count(what), y.count(what));
                if (random.nextInt(3) == 0) {
                    same("fail", x.fail(), y.fail());
                }
            }
        }
    }

    private void drawing() {
        int k = scheme();
        int storey = any(0, 1);
        int a = any(0, 9);
        int b = any(0, 7);
        int u = random.nextBoolean() ? a : any(Math.max(0, Math.min(a, 9)), 9);
        int v = random.nextBoolean() ? b : any(Math.max(0, Math.min(b, 7)), 7);
        int what = random.nextBoolean() ? any(0, 3) : any(12, 14);
        String call = "draw " + k + ", " + storey + ", " + a + ", " + b + ", " + u + ", " + v + ", " + what;
        same(call, x.draw(k, storey, a, b, u, v, what), y.draw(k, storey, a, b, u, v, what));
    }

    private void marking() {
        int k = juror();
        long row = 0;
        for (int i = upTo(3); i >= 0; i--) {
            int digit = 1 + upTo(Math.max(0, y.plans.size() - 1));
            row = Long.toHexString(row).indexOf(Character.forDigit(digit, 16)) < 0 ? row * 16 + digit : row;
        }
        same("marks " + k + ", " + Long.toHexString(row), x.marks(k, row), y.marks(k, row));
    }
}
