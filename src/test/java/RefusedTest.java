import java.util.ArrayList;
import java.util.Arrays;
import java.util.List;
import java.util.function.ToLongFunction;

/**
 * Every call that can't be done, in every state that a jury passes through: its answer is the one
 * that the promise names, and all that can be asked is answered behind it as it was ahead of it.
 * Each check has an object of its own, so that none is used for more than 512 calls.
 */
public final class RefusedTest {
    private static final int MIN = Integer.MIN_VALUE;
    private static final int MAX = Integer.MAX_VALUE;

    /** How far a jury has come. */
    private enum Stage { NEW, DRAWN, FIRST, KEPT, SECOND, WON, PAID, LOST, FULL }

    private record Call(String name, ToLongFunction<BuildingJury> ask, long due) {
    }

    private final Stage stage;
    private final List<Call> refused = new ArrayList<>();
    private final int schemes;
    private final int jurors;
    private final int today;
    private final int tape;

    private RefusedTest(Stage stage) {
        this.stage = stage;
        BuildingJury x = built();
        today = x.count(0);
        schemes = x.count(3);
        jurors = x.count(5);
        tape = x.count(13);
    }

    public static void main(String[] args) {
        for (Stage stage : Stage.values()) {
            RefusedTest test = new RefusedTest(stage);
            test.textCalls();
            test.schemeCalls();
            test.drawCalls();
            test.lookCalls();
            test.questionCalls();
            test.jurorCalls();
            test.roundCalls();
            test.askedOfRounds();
            test.hold();
        }
        Due.end();
    }

    private void hold() {
        long[] before = seen(built());
        for (Call call : refused) {
            BuildingJury x = built();
            Due.due(stage + ": " + call.name, call.ask.applyAsLong(x), call.due);
            long[] after = seen(x);
            if (!Arrays.equals(before, after)) {
                Due.due(stage + ": what " + call.name + " left " + Arrays.toString(after), 1, 0);
            }
        }
    }

    // ---- the states

    private boolean from(Stage other) {
        return stage.ordinal() >= other.ordinal() && stage != Stage.FULL;
    }

    private BuildingJury built() {
        BuildingJury x = new BuildingJury();
        if (stage == Stage.FULL) {
            fill(x);
        } else if (from(Stage.DRAWN)) {
            begin(x);
            vote(x);
        }
        return x;
    }

    private static void begin(BuildingJury x) {
        Due.brief(x, "room hall least 3 light 4;room bath least 1;near hall bath within 4;rate hall 20;wall 3;"
            + "cost most 9000 span 20;keep 2;vote rank;tie head;fee 10 20 30;");
        x.day(3);
        Due.brief(x, "way 7;keep 2;vote rank;tie head;");
        Due.brief(x, "way ?;");
        x.sun(3, 11);
        for (int author = 5; author < 9; author++) {
            x.scheme(author);
        }
        for (int scheme = 0; scheme < 3; scheme++) {
            x.draw(scheme, 0, 0, 0, scheme + 1, 1, 1);
            x.draw(scheme, 0, 0, 2, 0, 3, 13);
            x.draw(scheme, 1, 4, 4, 5, 4, 2);
        }
        x.hand(0);
        x.hand(1);
        x.hand(2);
        x.draw(3, 0, 6, 6, 6, 6, 1);
        x.alike(1, 0);
        Due.calls(x, 5, "anna");
        Due.ask(x, "how high is it", -7);
        Due.ask(x, "is it by anna", 1);
        for (int juror = 0; juror < 4; juror++) {
            x.juror();
        }
        x.knows(1, 6, 2);
        Due.tape(x, "some anna here");
    }

    private void vote(BuildingJury x) {
        if (from(Stage.FIRST)) {
            x.open();
            x.marks(0, 0x231);
            x.marks(1, 0x13);
            x.marks(2, 0x2);
            x.marks(3, 0x32);
        }
        if (from(Stage.KEPT)) {
            x.close();
            x.day(9);
        }
        if (from(Stage.SECOND)) {
            x.open();
            x.marks(0, 0x32);
            x.marks(2, 0x2);
            x.marks(3, 0x123);
        }
        if (from(Stage.WON)) {
            x.close();
        }
        if (from(Stage.PAID)) {
            x.pay();
            x.pay();
            x.pay();
        }
        if (from(Stage.LOST)) {
            x.fail();
            x.fail();
        }
    }

    private static void fill(BuildingJury x) {
        for (int k = 0; k < 6; k++) {
            Due.brief(x, k == 0 ? "room a least 0;room b least 0;" : "wall " + k + ";");
        }
        for (int k = 0; k < 10; k++) {
            x.scheme(39 - k);
        }
        x.draw(9, 1, 0, 0, 9, 7, 14);
        x.hand(9);
        for (int k = 0; k < 7; k++) {
            x.juror();
        }
        for (int k = 0; k < 50; k++) {
            x.ask(0, k);
        }
        for (int k = 0; k < 45; k++) {
            x.feed(k, -k, 0x20202020, MAX, MIN);
        }
        x.day(1000);
    }

    /** What can be asked without changing anything; the tape's bytes and the authors' names at last. */
    private long[] seen(BuildingJury x) {
        List<Integer> all = new ArrayList<>();
        for (int what = 0; what <= 14; what++) {
            all.add(x.count(what));
            all.add(x.law(x.count(0), what));
        }
        all.addAll(List.of(x.fault(), x.binds(0), x.binds(3), x.binds(1000), x.law(0, 21), x.law(0, 22), x.winner()));
        for (int room = 1; room <= 3; room++) {
            all.add(x.name(room, -1));
            all.add(x.name(room, 0));
        }
        for (int k = 0; k < schemes; k++) {
            all.addAll(List.of(x.room(k, 1, 0), x.room(k, 1, 1), x.room(k, 2, 0), x.room(k, 2, 1), x.steps(k, 1, 2)));
            all.addAll(List.of(x.cost(k, 0, 2), x.cost(k, 1000, 1), x.why(k), x.mend(k, 0), x.cell(k, 0, 0, 2), x.author(k)));
        }
        for (int what = 0; what < 3; what++) {
            all.add(x.answered(0, what));
            all.add(x.answered(49, what));
        }
        seenOfRounds(x, all);
        all.add(x.ask(14, 5));
        all.add(x.answered(1, 2));
        Due.calls(x, 30, "bo");
        all.add(Due.ask(x, "anna", 6));
        all.add(Due.ask(x, "annas", 6));
        all.add(Due.brief(x, "room zz least 1;"));
        all.add(x.name(3, 0));
        return all.stream().mapToLong(Integer::longValue).toArray();
    }

    private void seenOfRounds(BuildingJury x, List<Integer> all) {
        for (int round = 1; round <= 2; round++) {
            for (int k = 0; k < Math.min(schemes, 4); k++) {
                all.addAll(List.of(x.points(round, 0, k), x.points(round, 1, k), x.points(round, 2, k), x.order(round, -1, k)));
            }
            for (int juror = 0; juror < jurors; juror++) {
                all.add(x.voice(round, juror));
            }
        }
    }

    // ---- the calls

    private void add(String name, long due, ToLongFunction<BuildingJury> ask) {
        refused.add(new Call(name, ask, due));
    }

    /** Numbers below 0 and from a bound on, to both ends of int. */
    private static int[] outside(int bound) {
        return new int[] {MIN, MIN + 1, -2, -1, bound, bound + 1, bound + 255, MAX - 1, MAX};
    }

    /** The same without NONE, which is a rule or a place of its own to some calls. */
    private static int[] outsideButNone(int bound) {
        return Arrays.stream(outside(bound)).filter(n -> n != -1).toArray();
    }

    private void textCalls() {
        for (int d : new int[] {MIN, -1, 0, today - 1, today, 1001, 1002, MAX}) {
            add("day " + d, 0, x -> x.day(d) ? 1 : 0);
        }
        for (int n : outside(tape + 1)) {
            add("brief " + n, -2, x -> x.brief(n));
        }
        for (int d : outside(1001)) {
            add("binds " + d, -1, x -> x.binds(d));
            add("law of " + d, -1, x -> x.law(d, 0));
        }
        for (int what : new int[] {MIN, -1, 13, 14, 19, 20, 33, 34, 52, MAX}) {
            add("law " + what, -1, x -> x.law(today, what));
        }
        for (int room : outside(13)) {
            add("name of " + room, -1, x -> x.name(room, 0));
            add("letters of " + room, -1, x -> x.name(room, -1));
        }
        for (int i : outsideButNone(8)) {
            add("letter " + i, -1, x -> x.name(1, i));
        }
        add("room 0's name", -1, x -> x.name(0, -1));
        if (stage == Stage.FULL) {
            add("the 46th feed", -1, x -> x.feed(1, 2, 3, 4, 5));
            for (int n : new int[] {0, 1, 899, 900}) {
                add("a seventh brief of " + n, -3, x -> x.brief(n));
            }
        }
    }

    private void schemeCalls() {
        for (int side : outside(4)) {
            add("sun of " + side, 0, x -> x.sun(side, 5) ? 1 : 0);
        }
        for (int hours : outside(13)) {
            add("sun " + hours, 0, x -> x.sun(0, hours) ? 1 : 0);
        }
        for (int author : outside(40)) {
            add("scheme of " + author, -1, x -> x.scheme(author));
        }
        for (int k : outside(schemes)) {
            add("hand " + k, 0, x -> x.hand(k) ? 1 : 0);
        }
        if (stage != Stage.NEW) {
            int handed = stage == Stage.FULL ? 9 : 1;
            add("hand again", 0, x -> x.hand(handed) ? 1 : 0);
            add("draw what is handed in", 0, x -> x.draw(handed, 0, 0, 0, 9, 7, 4) ? 1 : 0);
        }
        if (stage == Stage.FULL) {
            add("an eleventh scheme", -1, x -> x.scheme(0));
            add("an eleventh scheme", -1, x -> x.scheme(39));
        }
    }

    private void drawCalls() {
        int open = stage == Stage.FULL ? 8 : Math.max(0, schemes - 1);
        for (int k : outside(schemes)) {
            add("draw in " + k, 0, x -> x.draw(k, 0, 0, 0, 1, 1, 1) ? 1 : 0);
        }
        for (int n : outside(2)) {
            add("draw on storey " + n, 0, x -> x.draw(open, n, 0, 0, 1, 1, 1) ? 1 : 0);
        }
        for (int n : outside(10)) {
            add("draw from x " + n, 0, x -> x.draw(open, 0, n, 0, 9, 1, 1) ? 1 : 0);
            add("draw to x " + n, 0, x -> x.draw(open, 0, 0, 0, n, 1, 1) ? 1 : 0);
            add("draw at x " + n, 0, x -> x.draw(open, 0, n, 0, n, 1, 1) ? 1 : 0);
        }
        for (int n : outside(8)) {
            add("draw from y " + n, 0, x -> x.draw(open, 1, 0, n, 1, 7, 1) ? 1 : 0);
            add("draw to y " + n, 0, x -> x.draw(open, 1, 0, 0, 1, n, 1) ? 1 : 0);
            add("draw at y " + n, 0, x -> x.draw(open, 1, 0, n, 1, n, 1) ? 1 : 0);
        }
        for (int n : outside(15)) {
            add("draw thing " + n, 0, x -> x.draw(open, 0, 0, 0, 1, 1, n) ? 1 : 0);
        }
        add("draw from right to left", 0, x -> x.draw(open, 0, 5, 0, 4, 7, 1) ? 1 : 0);
        add("draw from below upwards", 0, x -> x.draw(open, 0, 0, 5, 9, 4, 1) ? 1 : 0);
    }

    private void lookCalls() {
        int none = stage == Stage.NEW ? MAX : schemes;
        for (int k : outside(schemes)) {
            add("cell of " + k, -1, x -> x.cell(k, 0, 0, 0));
            add("room of " + k, -1, x -> x.room(k, 1, 0));
            add("steps of " + k, -1, x -> x.steps(k, 1, 2));
            add("cost of " + k, -1, x -> x.cost(k, 0, 0));
            add("why of " + k, -2, x -> x.why(k));
            add("mend of " + k, -1, x -> x.mend(k, 0));
            add("alike of " + k, -1, x -> x.alike(k, 0));
            add("alike to " + k, -1, x -> x.alike(0, k));
            add("author of " + k, -1, x -> x.author(k));
        }
        for (int n : outside(2)) {
            add("cell on storey " + n, -1, x -> x.cell(0, n, 0, 0));
            add("part " + n + " of a room", -1, x -> x.room(0, 1, n));
        }
        for (int n : outside(10)) {
            add("cell at x " + n, -1, x -> x.cell(0, 0, n, 0));
        }
        for (int n : outside(8)) {
            add("cell at y " + n, -1, x -> x.cell(0, 0, 0, n));
        }
        for (int room : outside(13)) {
            add("room " + room, -1, x -> x.room(0, room, 0));
            add("steps from " + room, -1, x -> x.steps(0, room, 1));
            add("steps to " + room, -1, x -> x.steps(0, 1, room));
        }
        add("room 0", -1, x -> x.room(0, 0, 0));
        add("steps from 0", -1, x -> x.steps(0, 0, 1));
        add("steps to itself", -1, x -> x.steps(0, 1, 1));
        for (int d : outside(1001)) {
            add("cost by " + d, -1, x -> x.cost(0, d, 0));
        }
        for (int what : outside(3)) {
            add("cost " + what, -1, x -> x.cost(0, 0, what));
            add("most " + what, -1, x -> x.most(what));
        }
        for (int what : outside(5)) {
            add("mend " + what, -1, x -> x.mend(0, what));
        }
        add("alike to itself", -1, x -> x.alike(0, 0));
        add("alike of none to itself", -1, x -> x.alike(none, none));
        if (stage == Stage.NEW) {
            add("most of none", -1, x -> x.most(0));
        }
    }

    private void questionCalls() {
        for (int author : outside(40)) {
            add("calls " + author, 0, x -> x.calls(author, 0) ? 1 : 0);
            add("calls " + author + " by all", 0, x -> x.calls(author, tape) ? 1 : 0);
        }
        for (int n : outside(tape + 1)) {
            add("calls by " + n, 0, x -> x.calls(5, n) ? 1 : 0);
            add("ask " + n, -2, x -> x.ask(n, 3));
        }
        for (int question : outside(stage == Stage.FULL ? 50 : stage == Stage.NEW ? 0 : 1)) {
            add("answered " + question, -1, x -> x.answered(question, 0));
        }
        for (int what : outside(3)) {
            add("answered with " + what, -1, x -> x.answered(0, what));
        }
        if (stage == Stage.FULL) {
            for (int n : new int[] {0, 1, 900}) {
                add("a 51st of " + n, -2, x -> x.ask(n, 3));
            }
        }
    }

    private void jurorCalls() {
        if (stage == Stage.FULL) {
            add("an eighth juror", -1, BuildingJury::juror);
        }
        for (int juror : outside(jurors)) {
            add("juror " + juror + " knows", 0, x -> x.knows(juror, 5, 0) ? 1 : 0);
            add("marks of " + juror, -1, x -> x.marks(juror, 0x1));
            add("empty marks of " + juror, -1, x -> x.marks(juror, 0));
            add("voice of " + juror, -1, x -> x.voice(1, juror));
        }
        for (int author : outside(40)) {
            add("knows " + author, 0, x -> x.knows(0, author, 0) ? 1 : 0);
        }
        for (int d : outside(1001)) {
            add("knows from " + d, 0, x -> x.knows(0, 5, d) ? 1 : 0);
        }
        long[] rows = {Long.MIN_VALUE, Long.MIN_VALUE + 1, Long.MAX_VALUE, -1, -2, -16, 0x11, 0x10, 0x101, 0x1020, 0x5, 0xB, 0xF,
            0x51, 0x15, 0x1234B, 0x2000000000L, 0x10000000000L, 0x10000000001L, 0x1100000000000000L, 0x7000000000000001L,
            0x8000000000000001L, 0x100000001L, 0x12341L, 0x123456789AAL, 0xFFFFFFFFFFL, 0xFFFFFFFFL, 0x80000000L};
        for (long row : rows) {
            add("marks " + Long.toHexString(row), -1, x -> x.marks(0, row));
        }
    }

    private void roundCalls() {
        boolean open = stage == Stage.FIRST || stage == Stage.SECOND;
        if (!open) {
            add("close", -1, BuildingJury::close);
            for (long row : new long[] {0, 1, 0x12, 0x21}) {
                add("no round for " + row, -1, x -> x.marks(0, row));
            }
        }
        if (open || from(Stage.WON) || stage == Stage.NEW) {
            add("open", -1, BuildingJury::open);
        }
        if (!from(Stage.WON) || stage == Stage.LOST) {
            add("winner", -1, BuildingJury::winner);
            add("fail", -2, BuildingJury::fail);
        }
        if (!from(Stage.WON) || from(Stage.PAID)) {
            add("pay", -1, BuildingJury::pay);
        }
        if (!from(Stage.WON)) {
            add("author", -1, x -> x.author(0));
        }
    }

    private void askedOfRounds() {
        int begun = from(Stage.SECOND) ? 2 : from(Stage.FIRST) ? 1 : 0;
        int closed = from(Stage.WON) ? 2 : from(Stage.KEPT) ? 1 : 0;
        for (int round : outside(begun + 1)) {
            add("points of round " + round, -1, x -> x.points(round, 0, 1));
            add("voice of round " + round, -1, x -> x.voice(round, 0));
        }
        for (int round : outside(closed + 1)) {
            add("order of round " + round, -1, x -> x.order(round, -1, 0));
            add("order of round " + round + " by rank", -1, x -> x.order(round, 1, 0));
        }
        add("points of round 0", -1, x -> x.points(0, 0, 1));
        add("voice of round 0", -1, x -> x.voice(0, 0));
        add("order of round 0", -1, x -> x.order(0, -1, 0));
        for (int rule : outside(3)) {
            add("points by " + rule, -1, x -> x.points(1, rule, 1));
        }
        for (int rule : outsideButNone(3)) {
            add("order by " + rule, -1, x -> x.order(1, rule, 0));
        }
        for (int k : outside(3)) {
            add("points of scheme " + k, -1, x -> x.points(1, 0, k));
            add("the order's " + k, -1, x -> x.order(1, -1, k));
        }
        for (int k : outside(2)) {
            add("the second order's " + k, -1, x -> x.order(2, -1, k));
        }
        for (int what : outside(15)) {
            add("count " + what, -1, x -> x.count(what));
        }
    }
}
