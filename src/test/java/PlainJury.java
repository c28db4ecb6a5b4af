import java.util.ArrayDeque;
import java.util.ArrayList;
import java.util.Arrays;
import java.util.HashMap;
import java.util.HashSet;
import java.util.LinkedHashSet;
import java.util.List;
import java.util.Map;
import java.util.Set;
import java.util.function.Predicate;

/**
 * The document once more, in the slowest and plainest way and with the whole Java library: it
 * keeps what was told and works everything out anew. PlainTest holds BuildingJury against it.
 */
final class PlainJury {

    static final class Fault extends RuntimeException {
        final int place;

        Fault(int place) {
            super(null, null, false, false);
            this.place = place;
        }
    }

    record Token(String text, int place) {
    }

    /** What a brief says of a scheme: whether a statement is broken. */
    record Rule(Predicate<Seen> broken) {
    }

    /** A scheme with all that a statement may ask. */
    record Seen(int[][][] cells, Law law, boolean late) {
    }

    static final class Law {
        final Map<String, Integer> terms = new HashMap<>(Map.of("wall", 10, "way", 50, "stair", 300, "span", 10,
            "close", 1000, "keep", 3, "vote", 0, "tie", 1));
        int[] fee = {20, 30, 50};
        final Map<Integer, Integer> rates = new HashMap<>();
        final Map<Integer, Integer> least = new HashMap<>();
        final List<Rule> rules = new ArrayList<>();
        int dearest = Integer.MAX_VALUE;
        int day;

        int rate(int room) {
            return rates.getOrDefault(room, 100);
        }
    }

    static final class Plan {
        int author;
        int handed = -1;
        int[][][] cells = new int[2][8][10];
    }

    static final class Round {
        final Set<Integer> in = new LinkedHashSet<>();
        final Map<Integer, List<Integer>> rows = new HashMap<>();
        Set<Integer> fixed = null;
        int rule;
        int tie;
    }

    static final Set<String> RESERVED = new HashSet<>(Arrays.asList(("room least light near within apart by rate wall way "
        + "stair cost most span out if close keep vote first rank pair tie head number fee or and not cells ways stairs "
        + "rooms dark late storeys").split(" ")));

    final StringBuilder tape = new StringBuilder();
    final List<Law> laws = new ArrayList<>();
    List<String> names = new ArrayList<>();
    final List<Plan> plans = new ArrayList<>();
    final int[] sun = {4, 6, 8, 6};
    final Set<String> pairs = new HashSet<>();
    final Map<Integer, String> authors = new HashMap<>();
    final List<int[]> answers = new ArrayList<>();
    final List<Map<Integer, Integer>> jurors = new ArrayList<>();
    final Round[] rounds = {new Round(), new Round()};
    int today;
    int fault = -1;
    int nobody;
    int opened;
    int closed;
    int failed;
    int paid;
    int fees;

    // ---- the text of a brief

    private List<Token> tokens;
    private int at;
    private int end;
    private List<String> told;
    private Set<String> here;

    private Token peek() {
        return at < tokens.size() ? tokens.get(at) : new Token("", end);
    }

    private Token take(Predicate<String> fits) {
        Token t = peek();
        if (!fits.test(t.text)) {
            throw new Fault(t.place);
        }
        at++;
        return t;
    }

    private void word(String text) {
        take(text::equals);
    }

    private int number(int low, int high) {
        return Integer.parseInt(take(t -> t.matches("[0-9]{1,6}") && Integer.parseInt(t) >= low
            && Integer.parseInt(t) <= high).text);
    }

    private static boolean nameLike(String t) {
        return t.matches("[a-z]{1,8}") && !RESERVED.contains(t);
    }

    private int told() {
        return told.indexOf(take(t -> nameLike(t) && here.contains(t)).text) + 1;
    }

    private void split(String text) {
        tokens = new ArrayList<>();
        end = text.length();
        java.util.regex.Matcher m = java.util.regex.Pattern.compile("[a-z]+|[0-9]+|[ \n]+|[\\s\\S]").matcher(text);
        while (m.find()) {
            if (!m.group().matches("[ \n]+")) {
                tokens.add(new Token(m.group(), m.start()));
            }
        }
        at = 0;
    }

    private Law read(String text) {
        split(text);
        told = new ArrayList<>(names);
        here = new HashSet<>();
        Law law = new Law();
        while (at < tokens.size()) {
            if (law.rules.size() == 40) {
                throw new Fault(peek().place);
            }
            law.rules.add(new Rule(statement(law)));
            word(";");
        }
        names = told;
        return law;
    }

    private Predicate<Seen> statement(Law law) {
        String head = take(t -> Set.of("room", "near", "apart", "rate", "wall", "way", "stair", "cost", "out", "close", "keep",
            "vote", "tie", "fee").contains(t)).text;
        switch (head) {
            case "room" -> {
                String name = take(t -> nameLike(t) && (told.contains(t) || told.size() < 12)).text;
                if (!told.contains(name)) {
                    told.add(name);
                }
                here.add(name);
                int room = told.indexOf(name) + 1;
                word("least");
                int least = number(0, 999999);
                law.least.merge(room, least, Math::max);
                int light = 0;
                if (peek().text.equals("light")) {
                    at++;
                    light = number(0, 999999);
                }
                int want = light;
                return s -> cells(s.cells, room) < least || light(s.cells, room) < want;
            }
            case "near" -> {
                int a = told();
                int b = told();
                word("within");
                int n = number(0, 999999);
                return s -> steps(s.cells, a, b) < 0 || steps(s.cells, a, b) > n;
            }
            case "apart" -> {
                int a = told();
                int b = told();
                word("by");
                int n = number(0, 999999);
                return s -> steps(s.cells, a, b) >= 0 && steps(s.cells, a, b) < n;
            }
            case "rate" -> {
                int room = told();
                law.rates.put(room, number(0, 9999));
            }
            case "wall", "way", "stair" -> law.terms.put(head, number(0, 9999));
            case "close" -> law.terms.put(head, number(0, 999999));
            case "keep" -> law.terms.put(head, number(1, 10));
            case "cost" -> {
                word("most");
                int most = number(0, 999999);
                law.dearest = Math.min(law.dearest, most);
                if (peek().text.equals("span")) {
                    at++;
                    law.terms.put("span", number(0, 50));
                }
                return s -> cost(s.cells, s.law) > most;
            }
            case "out" -> {
                word("if");
                return any(0);
            }
            case "vote" -> law.terms.put(head, List.of("first", "rank", "pair").indexOf(
                take(t -> t.equals("first") || t.equals("rank") || t.equals("pair")).text));
            case "tie" -> law.terms.put(head, take(t -> t.equals("head") || t.equals("number")).text.equals("head") ? 0 : 1);
            default -> {
                int a = number(0, 100);
                int b = number(0, 100);
                law.fee = new int[] {a, b, number(0, 100)};
            }
        }
        return s -> false;
    }

    private Predicate<Seen> any(int open) {
        Predicate<Seen> sum = all(open);
        while (peek().text.equals("or")) {
            at++;
            sum = sum.or(all(open));
        }
        return sum;
    }

    private Predicate<Seen> all(int open) {
        Predicate<Seen> sum = one(open);
        while (peek().text.equals("and")) {
            at++;
            sum = sum.and(one(open));
        }
        return sum;
    }

    private Predicate<Seen> one(int open) {
        Set<String> words = Set.of("cells", "cost", "ways", "stairs", "rooms", "dark", "late", "storeys");
        String t = take(x -> words.contains(x) || (x.equals("(") || x.equals("not")) && open < 10).text;
        if (t.equals("not")) {
            return one(open + 1).negate();
        }
        if (t.equals("(")) {
            Predicate<Seen> inner = any(open + 1);
            word(")");
            return inner;
        }
        String sign = take(x -> x.equals("<") || x.equals(">") || x.equals("=")).text;
        int n = number(0, 999999);
        return s -> {
            int m = measure(t, s);
            return sign.equals("<") ? m < n : sign.equals(">") ? m > n : m == n;
        };
    }

    // ---- a scheme

    private int measure(String word, Seen s) {
        int sum = 0;
        switch (word) {
            case "cells":
                for (int what = 1; what < 15; what++) {
                    sum += cells(s.cells, what);
                }
                return sum;
            case "cost":
                return cost(s.cells, s.law);
            case "ways":
                return cells(s.cells, 13);
            case "stairs":
                return cells(s.cells, 14);
            case "rooms":
                for (int what = 1; what < 13; what++) {
                    sum += cells(s.cells, what) > 0 ? 1 : 0;
                }
                return sum;
            case "dark":
                for (int what = 1; what < 13; what++) {
                    sum += cells(s.cells, what) > 0 && light(s.cells, what) == 0 ? 1 : 0;
                }
                return sum;
            case "late":
                return s.late ? 1 : 0;
            default:
                for (int[][] storey : s.cells) {
                    sum += Arrays.stream(storey).flatMapToInt(Arrays::stream).anyMatch(c -> c != 0) ? 1 : 0;
                }
                return sum;
        }
    }

    private static int at(int[][][] cells, int s, int y, int x) {
        return y < 0 || y > 7 || x < 0 || x > 9 ? 0 : cells[s][y][x];
    }

    private static int cells(int[][][] cells, int what) {
        int n = 0;
        for (int[][] storey : cells) {
            for (int[] line : storey) {
                for (int c : line) {
                    n += c == what ? 1 : 0;
                }
            }
        }
        return n;
    }

    private int light(int[][][] cells, int room) {
        int best = 0;
        for (int s = 0; s < 2; s++) {
            for (int y = 0; y < 8; y++) {
                for (int x = 0; x < 10; x++) {
                    if (cells[s][y][x] == room) {
                        best = Math.max(best, at(cells, s, y - 1, x) == 0 ? sun[0] : 0);
                        best = Math.max(best, at(cells, s, y, x + 1) == 0 ? sun[1] : 0);
                        best = Math.max(best, at(cells, s, y + 1, x) == 0 ? sun[2] : 0);
                        best = Math.max(best, at(cells, s, y, x - 1) == 0 ? sun[3] : 0);
                    }
                }
            }
        }
        return best;
    }

    private static int steps(int[][][] cells, int a, int b) {
        if (cells(cells, a) == 0 || cells(cells, b) == 0) {
            return -1;
        }
        Map<List<Integer>, Integer> far = new HashMap<>();
        ArrayDeque<List<Integer>> queue = new ArrayDeque<>();
        for (int s = 0; s < 2; s++) {
            for (int y = 0; y < 8; y++) {
                for (int x = 0; x < 10; x++) {
                    if (cells[s][y][x] == a) {
                        far.put(List.of(s, y, x), 0);
                        queue.add(List.of(s, y, x));
                    }
                }
            }
        }
        while (!queue.isEmpty()) {
            List<Integer> p = queue.poll();
            int here = cells[p.get(0)][p.get(1)][p.get(2)];
            if (here == b) {
                return far.get(p);
            }
            int[][] moves = {{0, 0, 1}, {0, 0, -1}, {0, 1, 0}, {0, -1, 0}, {1, 0, 0}, {-1, 0, 0}};
            for (int[] m : moves) {
                int s = p.get(0) + m[0];
                int y = p.get(1) + m[1];
                int x = p.get(2) + m[2];
                if (s < 0 || s > 1 || at(cells, s, y, x) == 0) {
                    continue;
                }
                int there = cells[s][y][x];
                boolean goes = m[0] == 0 ? here == there || here > 12 || there > 12 : here == 14 && there == 14;
                if (goes && far.putIfAbsent(List.of(s, y, x), far.get(p) + 1) == null) {
                    queue.add(List.of(s, y, x));
                }
            }
        }
        return -1;
    }

    private static int cost(int[][][] cells, Law law) {
        int sum = 0;
        for (int s = 0; s < 2; s++) {
            for (int y = 0; y < 8; y++) {
                for (int x = 0; x < 10; x++) {
                    int c = cells[s][y][x];
                    sum += c == 0 ? 0 : c == 13 ? law.terms.get("way") : c == 14 ? law.terms.get("stair") : law.rate(c);
                }
            }
            for (int y = 0; y < 8; y++) {
                for (int x = 0; x <= 10; x++) {
                    sum += at(cells, s, y, x - 1) != at(cells, s, y, x) ? law.terms.get("wall") : 0;
                }
            }
            for (int y = 0; y <= 8; y++) {
                for (int x = 0; x < 10; x++) {
                    sum += at(cells, s, y - 1, x) != at(cells, s, y, x) ? law.terms.get("wall") : 0;
                }
            }
        }
        return sum;
    }

    private Law lawOn(int day) {
        Law last = new Law();
        for (Law law : laws) {
            last = law.day <= day ? law : last;
        }
        return last;
    }

    private Law lawOf(Plan p) {
        return lawOn(p.handed < 0 ? today : p.handed);
    }

    private int whyOf(Plan p, int[][][] cells) {
        Law law = lawOf(p);
        Seen seen = new Seen(cells, law, (p.handed < 0 ? today : p.handed) > law.terms.get("close"));
        for (int i = 0; i < law.rules.size(); i++) {
            if (law.rules.get(i).broken.test(seen)) {
                return i;
            }
        }
        return -1;
    }

    private int[] mendOf(Plan p) {
        if (whyOf(p, p.cells) < 0) {
            return new int[] {0, -1, -1, -1, -1};
        }
        for (int s = 0; s < 2; s++) {
            for (int y = 0; y < 8; y++) {
                for (int x = 0; x < 10; x++) {
                    for (int what = 0; what < 15; what++) {
                        int old = p.cells[s][y][x];
                        p.cells[s][y][x] = what;
                        boolean good = what != old && whyOf(p, p.cells) < 0;
                        p.cells[s][y][x] = old;
                        if (good) {
                            return new int[] {1, s, x, y, what};
                        }
                    }
                }
            }
        }
        return new int[] {2, -1, -1, -1, -1};
    }

    private int alikeOf(int a, int b) {
        pairs.add(Math.min(a, b) + " " + Math.max(a, b));
        int[] same = new int[4];
        for (int y = 0; y < 8; y++) {
            for (int x = 0; x < 10; x++) {
                int c = plans.get(a).cells[0][y][x];
                int[][] other = plans.get(b).cells[0];
                int[] there = {other[y][x], other[y][9 - x], other[7 - y][x], other[7 - y][9 - x]};
                for (int i = 0; i < 4; i++) {
                    same[i] += c != 0 && c == there[i] ? 1 : 0;
                }
            }
        }
        return Arrays.stream(same).max().getAsInt();
    }

    // ---- rounds

    private Round roundOf(int round) {
        return round == opened && opened > 0 || round >= 1 && round <= closed ? rounds[round - 1] : null;
    }

    private Set<Integer> voicesOf(Round r) {
        if (r.fixed != null) {
            return r.fixed;
        }
        Set<Integer> voices = new HashSet<>();
        for (int j = 0; j < jurors.size(); j++) {
            boolean counts = true;
            for (int scheme : r.rows.getOrDefault(j, List.of())) {
                int since = jurors.get(j).getOrDefault(plans.get(scheme).author, 5000);
                counts &= !r.in.contains(scheme) || since > today;
            }
            if (counts) {
                voices.add(j);
            }
        }
        return voices;
    }

    private List<Integer> rowIn(Round r, int juror) {
        List<Integer> row = new ArrayList<>(r.rows.getOrDefault(juror, List.of()));
        row.removeIf(s -> !r.in.contains(s));
        return row;
    }

    private int pointsOf(Round r, int rule, int scheme) {
        int sum = 0;
        for (int j : voicesOf(r)) {
            List<Integer> row = rowIn(r, j);
            int place = row.indexOf(scheme);
            sum += rule == 0 && place == 0 ? 1 : rule == 1 && place >= 0 ? r.in.size() - place : 0;
        }
        for (int other : r.in) {
            if (rule != 2 || other == scheme) {
                continue;
            }
            int ahead = 0;
            int behind = 0;
            for (int j : voicesOf(r)) {
                List<Integer> row = rowIn(r, j);
                int a = row.contains(scheme) ? row.indexOf(scheme) : 99;
                int b = row.contains(other) ? row.indexOf(other) : 99;
                ahead += a < b ? 1 : 0;
                behind += a > b ? 1 : 0;
            }
            sum += ahead > behind ? 2 : ahead == behind ? 1 : 0;
        }
        return sum;
    }

    private List<Integer> orderOf(Round r, int rule) {
        List<Integer> order = new ArrayList<>(r.in);
        List<Integer> head = rowIn(r, 0);
        order.sort((a, b) -> {
            int c = pointsOf(r, rule, b) - pointsOf(r, rule, a);
            if (c == 0 && r.tie == 0) {
                c = (head.contains(a) ? head.indexOf(a) : 99) - (head.contains(b) ? head.indexOf(b) : 99);
            }
            return c == 0 ? a - b : c;
        });
        return order;
    }

    // ---- the face

    boolean day(int d) {
        boolean later = d > today && d <= 1000;
        today = later ? d : today;
        return later;
    }

    int feed(int... five) {
        if (tape.length() + 20 > 900) {
            return -1;
        }
        for (int n : five) {
            for (byte b : java.nio.ByteBuffer.allocate(4).putInt(n).array()) {
                tape.append((char) (b & 255));
            }
        }
        return tape.length();
    }

    private String cut(int n) {
        String text = tape.substring(0, n);
        tape.setLength(0);
        return text;
    }

    int brief(int n) {
        if (n < 0 || n > tape.length()) {
            return -2;
        }
        if (laws.size() == 6) {
            return -3;
        }
        try {
            Law law = read(cut(n));
            law.day = today;
            laws.add(law);
            fault = -1;
            return laws.size() - 1;
        } catch (Fault f) {
            fault = f.place;
            return -1;
        }
    }

    int fault() {
        return fault;
    }

    private static boolean in(int n, int low, int high) {
        return n >= low && n <= high;
    }

    int binds(int day) {
        return in(day, 0, 1000) ? laws.indexOf(lawOn(day)) : -1;
    }

    int law(int day, int what) {
        if (!in(day, 0, 1000)) {
            return -1;
        }
        Law law = lawOn(day);
        List<String> terms = List.of("wall", "way", "stair", "span", "close", "keep", "vote", "tie");
        if (in(what, 0, 7)) {
            return law.terms.get(terms.get(what));
        }
        if (in(what, 8, 10)) {
            return law.fee[what - 8];
        }
        if (what == 12) {
            int cells = 0;
            long sum = 0;
            for (Map.Entry<Integer, Integer> e : law.least.entrySet()) {
                cells += e.getValue();
                sum += (long) e.getValue() * law.rate(e.getKey());
            }
            return cells > 160 ? 1 : sum > law.dearest ? 2 : 0;
        }
        return what == 11 ? law.rules.size() : in(what, 21, 32) ? law.rate(what - 20) : -1;
    }

    int name(int room, int i) {
        if (!in(room, 1, names.size())) {
            return -1;
        }
        String name = names.get(room - 1);
        return i == -1 ? name.length() : in(i, 0, name.length() - 1) ? name.charAt(i) : -1;
    }

    boolean sun(int side, int hours) {
        if (!in(side, 0, 3) || !in(hours, 0, 12)) {
            return false;
        }
        sun[side] = hours;
        return true;
    }

    int scheme(int author) {
        if (!in(author, 0, 39) || plans.size() == 10) {
            return -1;
        }
        Plan p = new Plan();
        p.author = author;
        plans.add(p);
        return plans.size() - 1;
    }

    private Plan plan(int scheme) {
        return in(scheme, 0, plans.size() - 1) ? plans.get(scheme) : null;
    }

    boolean draw(int scheme, int storey, int x, int y, int u, int v, int what) {
        Plan p = plan(scheme);
        if (p == null || p.handed >= 0 || !in(storey, 0, 1) || !in(x, 0, u) || !in(u, 0, 9) || !in(y, 0, v) || !in(v, 0, 7)
                || !in(what, 0, 14)) {
            return false;
        }
        for (int row = y; row <= v; row++) {
            Arrays.fill(p.cells[storey][row], x, u + 1, what);
        }
        return true;
    }

    int cell(int scheme, int storey, int x, int y) {
        return plan(scheme) == null || !in(storey, 0, 1) || !in(x, 0, 9) || !in(y, 0, 7) ? -1 : plan(scheme).cells[storey][y][x];
    }

    boolean hand(int scheme) {
        if (plan(scheme) == null || plan(scheme).handed >= 0) {
            return false;
        }
        plan(scheme).handed = today;
        return true;
    }

    int room(int scheme, int room, int what) {
        if (plan(scheme) == null || !in(room, 1, 12) || !in(what, 0, 1)) {
            return -1;
        }
        return what == 0 ? cells(plan(scheme).cells, room) : light(plan(scheme).cells, room);
    }

    int steps(int scheme, int room, int other) {
        boolean none = plan(scheme) == null || !in(room, 1, 12) || !in(other, 1, 12) || room == other;
        return none ? -1 : steps(plan(scheme).cells, room, other);
    }

    int cost(int scheme, int day, int what) {
        if (plan(scheme) == null || !in(day, 0, 1000) || !in(what, 0, 2)) {
            return -1;
        }
        int cost = cost(plan(scheme).cells, lawOn(day));
        int span = (int) ((long) cost * lawOn(day).terms.get("span") / 100);
        return what == 0 ? cost : what == 1 ? cost - span : cost + span;
    }

    int why(int scheme) {
        return plan(scheme) == null ? -2 : whyOf(plan(scheme), plan(scheme).cells);
    }

    int[] mend(int scheme) {
        return plan(scheme) == null ? new int[] {-1, -1, -1, -1, -1} : mendOf(plan(scheme));
    }

    int alike(int scheme, int other) {
        return plan(scheme) == null || plan(other) == null || scheme == other ? -1 : alikeOf(scheme, other);
    }

    int most(int what) {
        int[] best = {-1, -1, -1};
        for (int a = 0; a < plans.size() && in(what, 0, 2); a++) {
            for (int b = a + 1; b < plans.size(); b++) {
                int same = alikeOf(a, b);
                best = same > best[0] ? new int[] {same, a, b} : best;
            }
        }
        return in(what, 0, 2) ? best[what] : -1;
    }

    boolean calls(int author, int n) {
        if (!in(author, 0, 39) || !in(n, 0, tape.length())) {
            return false;
        }
        String name = cut(n);
        if (!name.matches("[a-z]{1,8}")) {
            return false;
        }
        authors.put(author, name);
        return true;
    }

    int ask(int n, int answer) {
        if (!in(n, 0, tape.length()) || answers.size() == 50) {
            return -2;
        }
        List<String> words = new ArrayList<>(Arrays.asList(cut(n).split("[^a-z]+")));
        words.removeIf(String::isEmpty);
        if (words.stream().anyMatch(authors::containsValue)) {
            nobody++;
            return -1;
        }
        answers.add(new int[] {today, answer, words.size()});
        return answers.size() - 1;
    }

    int answered(int question, int what) {
        return in(question, 0, answers.size() - 1) && in(what, 0, 2) ? answers.get(question)[what] : -1;
    }

    int juror() {
        if (jurors.size() == 7) {
            return -1;
        }
        jurors.add(new HashMap<>());
        return jurors.size() - 1;
    }

    boolean knows(int juror, int author, int day) {
        if (!in(juror, 0, jurors.size() - 1) || !in(author, 0, 39) || !in(day, 0, 1000)) {
            return false;
        }
        jurors.get(juror).merge(author, day, Math::min);
        return true;
    }

    int marks(int juror, long row) {
        String digits = row == 0 ? "" : Long.toHexString(row);
        List<Integer> list = new ArrayList<>();
        for (char c : digits.toCharArray()) {
            list.add(Character.digit(c, 16) - 1);
        }
        if (opened == 0 || !in(juror, 0, jurors.size() - 1) || digits.length() > 10 || new HashSet<>(list).size() < list.size()
                || list.stream().anyMatch(s -> plan(s) == null)) {
            return -1;
        }
        rounds[opened - 1].rows.put(juror, list);
        return list.size();
    }

    int open() {
        if (opened != 0 || closed == 2) {
            return -1;
        }
        Round r = rounds[closed];
        for (int i = 0; i < plans.size() && closed == 0; i++) {
            if (plans.get(i).handed >= 0 && why(i) == -1) {
                r.in.add(i);
            }
        }
        if (r.in.isEmpty()) {
            return -1;
        }
        opened = closed + 1;
        return r.in.size();
    }

    int close() {
        if (opened == 0) {
            return -1;
        }
        Round r = rounds[opened - 1];
        r.fixed = voicesOf(r);
        r.rule = lawOn(today).terms.get("vote");
        r.tie = lawOn(today).terms.get("tie");
        List<Integer> order = orderOf(r, r.rule);
        if (opened == 1) {
            int last = order.get(Math.min(lawOn(today).terms.get("keep"), order.size()) - 1);
            order.removeIf(s -> pointsOf(r, r.rule, s) < pointsOf(r, r.rule, last));
            rounds[1].in.addAll(order);
        }
        closed = opened;
        opened = 0;
        return order.size();
    }

    int points(int round, int rule, int scheme) {
        Round r = roundOf(round);
        return r == null || !in(rule, 0, 2) || !r.in.contains(scheme) ? -1 : pointsOf(r, rule, scheme);
    }

    int voice(int round, int juror) {
        Round r = roundOf(round);
        return r == null || !in(juror, 0, jurors.size() - 1) ? -1 : voicesOf(r).contains(juror) ? 1 : 0;
    }

    int order(int round, int rule, int k) {
        Round r = in(round, 1, closed) ? rounds[round - 1] : null;
        if (r == null || !in(rule, -1, 2) || !in(k, 0, r.in.size() - 1)) {
            return -1;
        }
        return orderOf(r, rule == -1 ? r.rule : rule).get(k);
    }

    int author(int scheme) {
        return plan(scheme) == null || closed < 2 ? -1 : plan(scheme).author;
    }

    int winner() {
        return order(2, -1, failed);
    }

    int fail() {
        if (winner() < 0) {
            return -2;
        }
        failed++;
        paid = 0;
        return winner();
    }

    int pay() {
        if (winner() < 0 || paid == 3) {
            return -1;
        }
        Plan p = plan(winner());
        int fee = (int) ((long) cost(p.cells, lawOf(p)) * lawOn(today).fee[paid] / 100);
        paid++;
        fees += fee;
        return fee;
    }

    int count(int what) {
        int handed = (int) plans.stream().filter(p -> p.handed >= 0).count();
        int[] counts = {today, laws.size(), names.size(), plans.size(), handed, jurors.size(), opened, closed, answers.size(),
            nobody, pairs.size(), fees, paid, tape.length(), failed};
        return in(what, 0, 14) ? counts[what] : -1;
    }
}
