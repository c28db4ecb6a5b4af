import java.util.Random;

/** Long courses of calls with seeded arguments: BuildingJury's answers held against PlainJury's. */
public final class PlainTest {
    private static final int COURSES = 1200;
    /** What an object is used for at most, less what one step and the last counts may take. */
    private static final int CALLS = 512 - 82;

    private final Random random;
    private final BuildingJury x = new BuildingJury();
    private final PlainJury y = new PlainJury();
    private final int seed;
    /** In every other course the briefs throw few schemes out, so that there are rounds. */
    private final boolean mild;
    private int calls = 0;

    private PlainTest(int seed) {
        this.seed = seed;
        this.mild = seed % 2 == 0;
        this.random = new Random(seed);
    }

    public static void main(String[] args) {
        for (int seed = 1; seed <= COURSES; seed++) {
            new PlainTest(seed).course();
        }
        Due.end();
    }

    private int upTo(int n) {
        return random.nextInt(n + 1);
    }

    private boolean once(int times) {
        return random.nextInt(times) == 0;
    }

    /** From 0 to n, now and then outside. */
    private int about(int n) {
        int chance = random.nextInt(60);
        return chance == 0 ? -1 : chance == 1 ? n + 1 : chance == 2 ? random.nextInt() : upTo(Math.max(0, n));
    }

    private String pick(String... all) {
        return all[random.nextInt(all.length)];
    }

    private void same(String call, long got, long want) {
        calls++;
        Due.due("course " + seed + ": " + call, got, want);
    }

    private void same(String call, boolean got, boolean want) {
        same(call, got ? 1 : 0, want ? 1 : 0);
    }

    private void course() {
        briefing();
        briefing();
        int many = 3 + (mild ? upTo(7) : 0);
        for (int i = 0; i < many; i++) {
            int author = upTo(39);
            same("scheme", x.scheme(author), y.scheme(author));
            same("juror", x.juror(), y.juror());
            firstDrawing(i);
            if (mild && !once(4)) {
                same("hand", x.hand(i), y.hand(i));
            }
        }
        for (int i = 0; calls < CALLS; i++) {
            if (mild && i % 5 == 4) {
                rounds();
            } else {
                one(mild && once(2) ? 69 + upTo(28) : random.nextInt(100));
            }
        }
        for (int what = -1; what <= 15; what++) {
            same("count " + what, x.count(what), y.count(what));
        }
    }

    /** A way through the middle, a stair at its end, and rooms beside it. */
    private void firstDrawing(int scheme) {
        for (int storey = 0; storey < 2; storey++) {
            int row = 2 + upTo(3);
            rectangle(scheme, storey, upTo(3), row, 4 + upTo(2), row, 13);
            rectangle(scheme, storey, 5 + upTo(1), row, 6, row, 14);
            for (int room = 1; room <= 4; room++) {
                int column = upTo(6);
                int line = once(2) ? row - 2 : row + 1;
                rectangle(scheme, storey, column, line, column + upTo(2), line + 1, room);
            }
        }
    }

    private void rectangle(int scheme, int storey, int a, int b, int u, int v, int what) {
        same("draw", x.draw(scheme, storey, a, b, u, v, what), y.draw(scheme, storey, a, b, u, v, what));
    }

    private void one(int kind) {
        int scheme = about(y.plans.size() - 1);
        if (kind < 2) {
            briefing();
        } else if (kind < 5) {
            int to = y.today + upTo(4) - 1;
            same("day", x.day(to), y.day(to));
        } else if (kind < 8) {
            int author = about(39);
            same("scheme", x.scheme(author), y.scheme(author));
        } else if (kind < 30) {
            drawing(scheme);
        } else if (kind < 33) {
            same("hand", x.hand(scheme), y.hand(scheme));
        } else if (kind < 55) {
            looking(scheme);
        } else if (kind < 60) {
            mending(scheme);
        } else if (kind < 66) {
            asking();
        } else if (kind < 69) {
            rounds();
        } else if (kind < 80) {
            marking();
        } else if (kind < 98) {
            votes(scheme);
        } else {
            texts();
        }
    }

    // ---- briefs

    private String condition(int depth) {
        int kind = random.nextInt(depth > 3 ? 4 : 8);
        if (kind == 7) {
            return condition(depth + 1) + " or " + condition(depth + 1);
        }
        if (kind == 6) {
            return condition(depth + 1) + " and " + condition(depth + 1);
        }
        if (kind == 5) {
            return "not " + condition(depth + 1);
        }
        if (kind == 4) {
            return "(" + condition(depth + 1) + ")";
        }
        String word = pick("cells", "cost", "ways", "stairs", "rooms", "dark", "late", "storeys");
        int most = word.equals("cost") ? 9000 : word.equals("cells") ? 60 : word.equals("late") ? 1 : 3;
        return word + pick("<", ">", "=") + upTo(most);
    }

    private String statement(String[] names) {
        switch (mild && !once(8) ? 8 + upTo(5) : random.nextInt(14)) {
            case 0:
                return "room " + pick(names) + " least " + upTo(4) + (once(3) ? " light " + upTo(8) : "") + ";";
            case 1:
                return "near " + pick(names) + " " + pick(names) + " within " + upTo(12) + ";";
            case 2:
                return "apart " + pick(names) + " " + pick(names) + " by " + upTo(4) + ";";
            case 3:
                return "rate " + pick(names) + " " + upTo(150) + ";";
            case 4:
                return "wall " + upTo(20) + ";way " + upTo(60) + "; stair " + upTo(99) + ";";
            case 5:
                return "cost most " + upTo(once(3) ? 4000 : 99999) + (once(2) ? " span " + upTo(50) : "") + ";";
            case 6:
            case 7:
                return "out if " + condition(0) + ";";
            case 8:
                return "close " + upTo(60) + ";\n";
            case 9:
                return "keep " + (1 + upTo(4)) + ";";
            case 10:
            case 11:
                return "vote " + pick("first", "rank", "pair") + ";";
            case 12:
                return "tie " + pick("head", "number") + ";";
            default:
                return "fee " + upTo(100) + " " + upTo(100) + " " + upTo(100) + ";";
        }
    }

    private String text() {
        String[] names = pick("a b c", "a c d", "b a d e", "hall a cour", "abcdefgh z i j", "k l m n").split(" ");
        StringBuilder text = new StringBuilder();
        for (String name : names) {
            text.append("room ").append(name).append(" least ").append(mild ? 0 : upTo(2)).append(';');
        }
        int more = once(20) ? 45 : upTo(mild ? 8 : 4);
        for (int i = 0; i < more; i++) {
            text.append(statement(names));
        }
        if (once(mild ? 6 : 2)) {
            spoil(text);
        }
        return text.substring(0, Math.min(text.length(), 900));
    }

    private void spoil(StringBuilder text) {
        int place = random.nextInt(text.length());
        switch (random.nextInt(4)) {
            case 0:
                text.deleteCharAt(place);
                break;
            case 1:
                text.setCharAt(place, pick(";", "(", ")", "<", "9", "a", "Z", "\u00e4", " ", "\n", "\t").charAt(0));
                break;
            case 2:
                text.insert(place, pick(";", "(", ")", "0", " not ", " or ", "12345678", "abcdefgh"));
                break;
            default:
                text.setLength(place);
        }
    }

    /** Puts a text on both tapes; how many bytes of it fit. */
    private int tape(String text) {
        Due.tape(x, text);
        calls += (text.length() + 19) / 20;
        for (int i = 0; i < text.length() && y.tape.length() <= 880; i += 20) {
            String part = text.substring(i, Math.min(i + 20, text.length()));
            y.tape.append(part).append(" ".repeat(20 - part.length()));
        }
        same("tape", x.count(13), y.count(13));
        return once(20) ? about(y.tape.length()) : Math.min(text.length(), y.tape.length());
    }

    private void briefing() {
        String text = text();
        int n = tape(text);
        same("brief " + n + " of " + text, x.brief(n), y.brief(n));
        same("fault of " + text, x.fault(), y.fault());
        for (int i = 0; i < 8; i++) {
            int what = once(2) ? about(12) : about(34);
            same("law " + what + " of " + text, x.law(y.today, what), y.law(y.today, what));
        }
    }

    private void texts() {
        int day = about(y.today + 2);
        int room = about(12);
        int letter = about(8);
        same("binds", x.binds(day), y.binds(day));
        same("law", x.law(day, letter), y.law(day, letter));
        same("name", x.name(room, letter), y.name(room, letter));
        same("letters", x.name(room, -1), y.name(room, -1));
        int[] n = {random.nextInt(), random.nextInt(), random.nextInt(), 7, -1};
        same("feed", x.feed(n[0], n[1], n[2], n[3], n[4]), y.feed(n));
    }

    // ---- schemes

    private void drawing(int scheme) {
        int u = about(9);
        int v = about(7);
        int a = Math.max(0, u - upTo(2));
        int b = Math.max(0, v - upTo(2));
        int storey = about(1);
        int what = once(3) ? 13 + upTo(1) : about(once(4) ? 14 : 5);
        rectangle(scheme, storey, a, b, u, v, what);
        if (once(10)) {
            int side = about(3);
            int hours = about(12);
            same("sun", x.sun(side, hours), y.sun(side, hours));
        }
    }

    private void looking(int scheme) {
        int one = about(once(3) ? 12 : 5);
        int two = about(once(3) ? 12 : 5);
        int day = about(y.today + 2);
        int what = about(2);
        same("cell", x.cell(scheme, what, one, two), y.cell(scheme, what, one, two));
        same("room", x.room(scheme, one, what), y.room(scheme, one, what));
        same("steps", x.steps(scheme, one, two), y.steps(scheme, one, two));
        same("cost", x.cost(scheme, day, what), y.cost(scheme, day, what));
        same("why", x.why(scheme), y.why(scheme));
    }

    private void mending(int scheme) {
        if (once(3)) {
            int what = about(2);
            same("most", x.most(what), y.most(what));
        }
        int other = about(y.plans.size() - 1);
        same("alike", x.alike(scheme, other), y.alike(scheme, other));
        int[] want = y.mend(scheme);
        for (int what = -1; what <= 5; what++) {
            same("mend " + what, x.mend(scheme, what), what < 0 || what > 4 ? -1 : want[what]);
        }
    }

    // ---- questions, jurors, rounds

    private String sentence() {
        StringBuilder text = new StringBuilder();
        for (int i = upTo(4); i > 0; i--) {
            text.append(pick("anna", "bo", "abcdefghi", "is", "it", "high", "Anna", "\u00ff", "4")).append(pick(" ", "", "-", "\n"));
        }
        return text.toString();
    }

    private void asking() {
        if (once(4)) {
            int author = about(39);
            int n = tape(pick("anna", "bo", "zed", "abcdefgh", "abcdefghi", "Bo", ""));
            same("calls", x.calls(author, n), y.calls(author, n));
        } else {
            int n = tape(sentence());
            int answer = random.nextInt();
            same("ask", x.ask(n, answer), y.ask(n, answer));
        }
        int question = about(y.answers.size() - 1);
        int what = about(2);
        same("answered", x.answered(question, what), y.answered(question, what));
    }

    private void rounds() {
        if (y.opened == 0 && !once(4) && y.closed < 2) {
            same("open", x.open(), y.open());
        } else if (once(y.opened == 0 ? 9 : 2)) {
            same("close", x.close(), y.close());
        } else if (once(2)) {
            same("pay", x.pay(), y.pay());
        } else {
            same("fail", x.fail(), y.fail());
        }
    }

    private void marking() {
        int juror = about(y.jurors.size() - 1);
        long row = 0;
        int length = once(30) ? 11 : upTo(5);
        for (int i = 0; i < length; i++) {
            int digit = 1 + upTo(y.plans.size() - 1);
            boolean again = Long.toHexString(row).contains(Integer.toHexString(digit)) && !once(10);
            row = again ? row : row * 16 + (once(40) ? 0 : digit);
        }
        row = once(60) ? random.nextLong() : row;
        same("marks " + Long.toHexString(row), x.marks(juror, row), y.marks(juror, row));
        if (once(6)) {
            int author = y.plans.isEmpty() || once(5) ? about(39) : y.plans.get(upTo(y.plans.size() - 1)).author;
            int day = about(y.today + 3);
            same("knows", x.knows(juror, author, day), y.knows(juror, author, day));
        }
        if (once(20)) {
            same("juror", x.juror(), y.juror());
        }
    }

    private void votes(int scheme) {
        int round = once(20) ? about(3) : 1 + upTo(1);
        int rule = about(2);
        int juror = about(y.jurors.size() - 1);
        int own = upTo(3) - 1;
        int place = about(y.plans.size() - 1);
        int what = about(14);
        same("points", x.points(round, rule, scheme), y.points(round, rule, scheme));
        same("voice", x.voice(round, juror), y.voice(round, juror));
        same("order", x.order(round, own, place), y.order(round, own, place));
        same("author", x.author(scheme), y.author(scheme));
        same("winner", x.winner(), y.winner());
        same("count", x.count(what), y.count(what));
    }
}
