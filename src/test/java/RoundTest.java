/** Promises 24 to 36: jurors, marks, rounds, points, voices, orders, the winner, fees, counts. */
public final class RoundTest {

    public static void main(String[] args) {
        jurors();
        rows();
        opening();
        pointsByRules();
        pairs();
        voices();
        voicesFixed();
        weighedAtLast();
        ties();
        keeping();
        ownRule();
        wholeCourse();
        lateBriefs();
        Due.end();
    }

    /** A jury with schemes 0 to n - 1 of authors 10 on, all handed in, and seven jurors. */
    private static BuildingJury jury(int n, String text) {
        BuildingJury x = new BuildingJury();
        Due.due("brief " + text, Due.brief(x, text), 0);
        for (int i = 0; i < n; i++) {
            x.scheme(10 + i);
            x.hand(i);
        }
        for (int j = 0; j < 7; j++) {
            x.juror();
        }
        return x;
    }

    private static void rowOf(BuildingJury x, int juror, int... schemes) {
        long row = 0;
        for (int scheme : schemes) {
            row = row * 16 + scheme + 1;
        }
        Due.due("marks of " + juror, x.marks(juror, row), schemes.length);
    }

    private static void orderIs(String what, BuildingJury x, int round, int rule, int... want) {
        for (int k = 0; k < want.length; k++) {
            Due.due(what + ", order " + k, x.order(round, rule, k), want[k]);
        }
        Due.due(what + ", behind the order", x.order(round, rule, want.length), -1);
        Due.due(what + ", ahead of the order", x.order(round, rule, -1), -1);
    }

    private static void pointsAre(String what, BuildingJury x, int round, int rule, int... want) {
        for (int scheme = 0; scheme < want.length; scheme++) {
            Due.due(what + ", points " + scheme, x.points(round, rule, scheme), want[scheme]);
        }
    }

    private static void jurors() {
        BuildingJury x = new BuildingJury();
        Due.due("knows none", x.knows(0, 0, 0), false);
        for (int j = 0; j < 7; j++) {
            Due.due("juror", x.juror(), j);
        }
        Due.due("an eighth", x.juror(), -1);
        Due.due("jurors", x.count(5), 7);
        Due.due("knows", x.knows(6, 39, 1000), true);
        Due.due("knows", x.knows(0, 0, 0), true);
        Due.due("juror 7", x.knows(7, 0, 0), false);
        Due.due("juror -1", x.knows(-1, 0, 0), false);
        Due.due("author 40", x.knows(0, 40, 0), false);
        Due.due("author -1", x.knows(1, -1, 0), false);
        Due.due("day 1001", x.knows(0, 0, 1001), false);
        Due.due("day -1", x.knows(0, 0, -1), false);
    }

    private static void rows() {
        BuildingJury x = jury(10, "");
        Due.due("no round", x.marks(0, 1), -1);
        x.open();
        Due.due("all ten", x.marks(0, 0x123456789AL), 10);
        Due.due("all ten turned", x.marks(0, 0xA987654321L), 10);
        long[] bad = {0x11, 0x10, 0x101, 0xB, 0xF, 0x1000000000L, 0xA123456780L, 0x1123456789AL, 0x10000000000L,
            -1, Long.MIN_VALUE, Long.MAX_VALUE, 0x123456789AL << 4, 0x8000000000000001L, 0x100000001L};
        for (long row : bad) {
            Due.due("marks " + Long.toHexString(row), x.marks(0, row), -1);
        }
        Due.due("juror 7", x.marks(7, 1), -1);
        Due.due("juror -1", x.marks(-1, 1), -1);
        Due.due("what was stays", x.points(1, 0, 9), 1);
        Due.due("one", x.marks(0, 3), 1);
        Due.due("in place of what was", x.points(1, 0, 9), 0);
        Due.due("in place of what was", x.points(1, 0, 2), 1);
        Due.due("in place of what was", x.points(1, 1, 9), 0);
        Due.due("none", x.marks(0, 0), 0);
        Due.due("none has points", x.points(1, 0, 2), 0);
        x = jury(2, "");
        x.open();
        Due.due("none such", x.marks(0, 3), -1);
        x.scheme(1);
        Due.due("not in the round", x.marks(0, 0x312), 3);
        Due.due("the first that is in it", x.points(1, 0, 0), 1);
        Due.due("n less its place", x.points(1, 1, 0), 2);
        Due.due("n less its place", x.points(1, 1, 1), 1);
        Due.due("not in it", x.points(1, 1, 2), -1);
    }

    private static void opening() {
        BuildingJury x = new BuildingJury();
        Due.due("none", x.open(), -1);
        x.scheme(0);
        Due.due("none handed in", x.open(), -1);
        x.hand(0);
        Due.brief(x, "out if cells<1;");
        Due.due("that one is out", x.open(), -1);
        Due.due("no round", x.count(6), 0);
        Due.due("close", x.close(), -1);
        x.scheme(1);
        x.draw(1, 0, 0, 0, 0, 0, 1);
        x.hand(1);
        x.scheme(1);
        x.draw(2, 0, 0, 0, 0, 0, 1);
        Due.due("one is in", x.open(), 1);
        Due.due("the round", x.count(6), 1);
        Due.due("out", x.points(1, 0, 0), -1);
        Due.due("in", x.points(1, 0, 1), 0);
        x.hand(2);
        Due.due("handed in too late", x.points(1, 0, 2), -1);
        Due.brief(x, "out if cells>0;");
        Due.due("as it was opened", x.points(1, 0, 1), 0);
        Due.due("one is open", x.open(), -1);
        Due.due("one is kept", x.close(), 1);
        Due.due("no round", x.count(6), 0);
        Due.due("closed", x.count(7), 1);
        Due.due("close again", x.close(), -1);
        Due.due("not opened", x.points(2, 0, 1), -1);
        Due.due("the second", x.open(), 1);
        Due.due("the round", x.count(6), 2);
        Due.due("kept", x.points(2, 0, 1), 0);
        Due.due("not kept", x.points(2, 0, 2), -1);
        Due.due("the order", x.close(), 1);
        Due.due("closed", x.count(7), 2);
        Due.due("two were", x.open(), -1);
        Due.due("none is open", x.close(), -1);
    }

    private static void pointsByRules() {
        BuildingJury x = jury(4, "");
        x.open();
        pointsAre("no rows", x, 1, 0, 0, 0, 0, 0, -1);
        pointsAre("no rows", x, 1, 1, 0, 0, 0, 0, -1);
        pointsAre("no rows", x, 1, 2, 3, 3, 3, 3, -1);
        rowOf(x, 0, 0, 1, 2);
        rowOf(x, 1, 0, 1);
        rowOf(x, 2, 2, 1, 0, 3);
        rowOf(x, 3, 3);
        pointsAre("first", x, 1, 0, 2, 0, 1, 1, -1);
        pointsAre("rank", x, 1, 1, 4 + 4 + 2, 3 + 3 + 3, 2 + 4, 1 + 4, -1);
        pointsAre("pair", x, 1, 2, 2 + 2 + 2, 0 + 2 + 2, 0 + 0 + 2, 0);
        for (int bad : new int[] {-1, 3}) {
            Due.due("rule " + bad, x.points(1, bad, 0), -1);
        }
        for (int bad : new int[] {-1, 0, 2, 3}) {
            Due.due("round " + bad, x.points(bad, 0, 0), -1);
            Due.due("voice of round " + bad, x.voice(bad, 0), -1);
        }
        Due.due("scheme -1", x.points(1, 0, -1), -1);
        Due.due("scheme 10", x.points(1, 0, 10), -1);
        Due.due("voice of juror 7", x.voice(1, 7), -1);
        Due.due("voice of juror -1", x.voice(1, -1), -1);
        Due.due("no order while it is open", x.order(1, 0, 0), -1);
        Due.due("kept", x.close(), 3);
    }

    private static void pairs() {
        BuildingJury x = jury(3, "vote pair;");
        x.open();
        rowOf(x, 0, 0);
        rowOf(x, 1, 1);
        rowOf(x, 2, 2, 0);
        pointsAre("as many", x, 1, 2, 2 + 1, 0 + 1, 1 + 1);
        x.close();
        orderIs("pair", x, 1, -1, 0, 2, 1);
    }

    private static void voices() {
        BuildingJury x = jury(3, "keep 1;");
        x.scheme(9);
        x.open();
        rowOf(x, 0, 3, 0);
        rowOf(x, 1, 1, 0);
        rowOf(x, 2, 2);
        Due.due("an unknown one", x.voice(1, 0), 1);
        x.knows(0, 9, 0);
        Due.due("not in the round", x.voice(1, 0), 1);
        x.knows(0, 11, 0);
        Due.due("not in the row", x.voice(1, 0), 1);
        x.knows(1, 10, 2);
        Due.due("not yet", x.voice(1, 1), 1);
        x.day(1);
        Due.due("not yet", x.voice(1, 1), 1);
        pointsAre("not yet", x, 1, 1, 5, 3, 3);
        x.day(2);
        Due.due("from now on", x.voice(1, 1), 0);
        pointsAre("from now on", x, 1, 1, 3, 0, 3);
        pointsAre("from now on", x, 1, 0, 1, 0, 1);
        pointsAre("from now on", x, 1, 2, 2 + 1, 0, 2 + 1);
        rowOf(x, 1, 1);
        Due.due("another row", x.voice(1, 1), 1);
        x.knows(2, 12, 9);
        x.knows(2, 12, 2);
        x.knows(2, 12, 5);
        Due.due("the earliest", x.voice(1, 2), 0);
        rowOf(x, 2);
        Due.due("an empty row", x.voice(1, 2), 1);
    }

    private static void voicesFixed() {
        BuildingJury x = new BuildingJury();
        for (int i = 0; i < 3; i++) {
            x.scheme(i);
            x.hand(i);
        }
        x.juror();
        x.juror();
        x.open();
        rowOf(x, 0, 0, 1, 2);
        rowOf(x, 1, 1, 2, 0);
        x.day(3);
        x.knows(0, 1, 4);
        Due.due("kept", x.close(), 3);
        x.knows(1, 2, 0);
        x.day(4);
        Due.due("fixed", x.voice(1, 0), 1);
        Due.due("fixed", x.voice(1, 1), 1);
        pointsAre("fixed", x, 1, 1, 4, 5, 3);
        orderIs("fixed", x, 1, 1, 1, 0, 2);
        Due.due("no row is taken", x.marks(0, 1), -1);
        Due.due("one more juror", x.juror(), 2);
        Due.due("who wasn't there", x.voice(1, 2), 0);
        Due.due("not opened", x.voice(2, 0), -1);
        x.open();
        Due.due("no row yet", x.voice(2, 0), 1);
        Due.due("who is there now", x.voice(2, 2), 1);
        pointsAre("no row yet", x, 2, 1, 0, 0, 0);
        rowOf(x, 0, 1);
        rowOf(x, 1, 0, 1);
        Due.due("who knows", x.voice(2, 0), 0);
        Due.due("who does not", x.voice(2, 1), 1);
        pointsAre("the second", x, 2, 1, 3, 2, 0);
        pointsAre("the first still", x, 1, 1, 4, 5, 3);
        x.close();
        x.knows(1, 0, 0);
        orderIs("fixed, too", x, 2, 1, 0, 1, 2);
        Due.due("fixed, too", x.voice(2, 1), 1);
        Due.due("fixed, too", x.voice(2, 0), 0);
    }

    /** Nobody asks for voices between the marks and the closing. */
    private static void weighedAtLast() {
        BuildingJury x = jury(2, "keep 1;");
        x.open();
        rowOf(x, 0, 1);
        rowOf(x, 1, 0);
        x.knows(0, 11, 1000);
        x.day(1000);
        Due.due("kept", x.close(), 1);
        Due.due("not kept", x.order(1, -1, 1), 1);
        Due.due("who knows", x.voice(1, 0), 0);
        Due.due("who never does", x.voice(1, 1), 1);
        Due.due("points", x.points(1, 0, 0), 1);
        x = jury(2, "keep 1;");
        x.open();
        rowOf(x, 0, 1);
        x.knows(0, 11, 0);
        x.close();
        Due.due("told behind the marks", x.points(1, 0, 1), 0);
    }

    private static void ties() {
        BuildingJury x = jury(4, "vote first;tie head;keep 10;");
        x.open();
        rowOf(x, 0, 3, 2);
        rowOf(x, 1, 1);
        rowOf(x, 2, 0);
        x.knows(0, 13, 0);
        Due.due("juror 0 has no voice", x.voice(1, 0), 0);
        x.close();
        orderIs("head all the same", x, 1, -1, 0, 1, 3, 2);
        orderIs("rank by head", x, 1, 1, 0, 1, 3, 2);
        x.open();
        rowOf(x, 0, 2, 1);
        x.close();
        orderIs("that round's row", x, 2, -1, 2, 1, 0, 3);
        orderIs("pair by head", x, 2, 2, 2, 1, 0, 3);
        x = jury(4, "vote first;keep 10;");
        x.open();
        rowOf(x, 0, 3, 2, 1, 0);
        x.close();
        orderIs("number", x, 1, -1, 3, 0, 1, 2);
        x = new BuildingJury();
        Due.brief(x, "tie head;");
        for (int i = 0; i < 3; i++) {
            x.scheme(i);
            x.hand(i);
        }
        x.open();
        x.close();
        orderIs("no juror", x, 1, -1, 0, 1, 2);
        for (int bad : new int[] {-2, 3}) {
            Due.due("rule " + bad, x.order(1, bad, 0), -1);
        }
        for (int bad : new int[] {-1, 0, 2, 3}) {
            Due.due("round " + bad, x.order(bad, -1, 0), -1);
        }
    }

    private static void keeping() {
        BuildingJury x = jury(5, "keep 2;vote rank;");
        x.open();
        rowOf(x, 0, 4, 3, 1);
        rowOf(x, 1, 4, 1, 3);
        Due.due("those with as many, too", x.close(), 3);
        Due.due("the second", x.open(), 3);
        Due.due("kept", x.points(2, 0, 1), 0);
        Due.due("kept", x.points(2, 0, 3), 0);
        Due.due("not kept", x.points(2, 0, 0), -1);
        x = jury(5, "keep 2;vote rank;");
        x.open();
        rowOf(x, 0, 4, 3, 1);
        Due.due("two", x.close(), 2);
        x.open();
        rowOf(x, 0, 1, 4);
        pointsAre("those of the round alone", x, 2, 1, -1, -1, -1, 0, 2);
        pointsAre("those of the round alone", x, 2, 0, -1, -1, -1, 0, 1);
        Due.due("all of it", x.close(), 2);
        x = jury(5, "keep 10;");
        x.open();
        Due.due("fewer than ten", x.close(), 5);
        x = jury(5, "");
        x.open();
        rowOf(x, 0, 4);
        rowOf(x, 1, 3);
        rowOf(x, 2, 2);
        rowOf(x, 3, 1);
        rowOf(x, 4, 1);
        Due.due("keep of none told", x.close(), 4);
    }

    private static void ownRule() {
        BuildingJury x = jury(3, "vote first;keep 1;");
        x.open();
        rowOf(x, 0, 0, 1, 2);
        rowOf(x, 1, 0, 1, 2);
        rowOf(x, 2, 1, 2, 0);
        rowOf(x, 3, 2, 1, 0);
        rowOf(x, 4, 2, 1, 0);
        x.day(2);
        Due.brief(x, "vote rank;tie head;keep 2;");
        Due.due("by the brief of today", x.close(), 2);
        Due.brief(x, "vote first;tie number;keep 1;");
        orderIs("its own rule", x, 1, -1, 1, 2, 0);
        orderIs("its tie", x, 1, 0, 0, 2, 1);
        x.day(3);
        orderIs("pair", x, 1, 2, 1, 2, 0);
        Due.due("the second", x.open(), 2);
        Due.due("not kept", x.points(2, 0, 0), -1);
        Due.due("kept", x.points(2, 0, 1), 0);
        Due.due("kept", x.points(2, 0, 2), 0);
    }

    private static void wholeCourse() {
        BuildingJury x = jury(3, "wall 1;way 1;stair 1;fee 10 33 50;close 9;");
        Due.due("no winner yet", x.winner(), -1);
        Due.due("fail", x.fail(), -2);
        Due.due("pay", x.pay(), -1);
        for (int i = 3; i < 5; i++) {
            x.scheme(10 + i);
            x.draw(i, 0, 0, 0, i, 0, i == 3 ? 13 : 14);
            x.hand(i);
        }
        Due.due("handed in", x.count(4), 5);
        x.open();
        rowOf(x, 0, 4, 3, 2);
        Due.due("by rule first", x.close(), 5);
        Due.due("no winner yet", x.winner(), -1);
        x.open();
        rowOf(x, 0, 4, 3, 2);
        rowOf(x, 1, 4);
        rowOf(x, 2, 3);
        Due.due("sealed", x.author(0), -1);
        Due.due("no winner yet", x.winner(), -1);
        x.close();
        Due.due("opened", x.author(0), 10);
        Due.due("opened", x.author(4), 14);
        Due.due("none such", x.author(5), -1);
        Due.due("none such", x.author(-1), -1);
        Due.due("the winner", x.winner(), 4);
        Due.due("his cost", x.cost(4, 0, 0), 17);
        Due.due("stage 0", x.pay(), 1);
        Due.due("stage 1", x.pay(), 5);
        Due.due("stages", x.count(12), 2);
        Due.due("all fees", x.count(11), 6);
        Due.due("who comes next", x.fail(), 3);
        Due.due("the winner", x.winner(), 3);
        Due.due("stages", x.count(12), 0);
        Due.due("all fees stay", x.count(11), 6);
        Due.due("failed", x.count(14), 1);
        x.day(5);
        Due.brief(x, "wall 100;way 100;fee 100 50 0;");
        Due.due("his cost", x.cost(3, 0, 0), 14);
        Due.due("stage 0 by today", x.pay(), 14);
        Due.due("stage 1", x.pay(), 7);
        Due.due("stage 2 of nothing", x.pay(), 0);
        Due.due("stages", x.count(12), 3);
        Due.due("all are paid", x.pay(), -1);
        Due.due("all fees", x.count(11), 27);
        Due.due("who comes next", x.fail(), 0);
        Due.due("who comes next", x.fail(), 1);
        Due.due("who comes next", x.fail(), 2);
        Due.due("nobody", x.fail(), -1);
        Due.due("nobody", x.winner(), -1);
        Due.due("there is none", x.fail(), -2);
        Due.due("nobody to pay", x.pay(), -1);
        Due.due("failed", x.count(14), 5);
        Due.due("stages", x.count(12), 0);
        int[] counts = {5, 2, 0, 5, 5, 7, 0, 2, 0, 0, 0, 27, 0, 0, 5};
        for (int what = 0; what < counts.length; what++) {
            Due.due("count " + what, x.count(what), counts[what]);
        }
        Due.due("count 15", x.count(15), -1);
        Due.due("count -1", x.count(-1), -1);
    }

    private static void lateBriefs() {
        BuildingJury x = new BuildingJury();
        x.scheme(0);
        x.draw(0, 1, 0, 0, 0, 0, 14);
        x.hand(0);
        x.open();
        x.close();
        x.open();
        x.close();
        Due.due("bare", x.pay(), 340 * 20 / 100);
        Due.brief(x, "stair 100;fee 1 50 3;");
        Due.due("by the last brief of its day", x.pay(), 70);
        x.day(1);
        Due.brief(x, "stair 1000;");
        Due.due("bare hundredths of its cost", x.pay(), 70);
    }
}
