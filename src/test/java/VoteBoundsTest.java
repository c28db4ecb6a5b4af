import java.util.function.ToIntFunction;

/**
 * The sentences of promises 21 to 36, and of the terms they rest on, that name a boundary: the last
 * value within it and the first beyond it, none and one, the full count and one more.
 */
public final class VoteBoundsTest {
    private static final int MIN = Integer.MIN_VALUE;
    private static final int MAX = Integer.MAX_VALUE;

    public static void main(String[] args) {
        lettersOfAuthors();
        howMuchIsAName();
        wordsThatTell();
        fiftyQuestions();
        whatWasAnswered();
        sevenJurors();
        earliestDay();
        digitsOfRows();
        rowsOfTen();
        roundsOfOneAndTen();
        handedInForRounds();
        firstRankPair();
        pairsByRows();
        voicesByDays();
        voicesOfThatRound();
        keptFromOneToTen();
        keptWithAsMany();
        tiesByHead();
        tiesWithoutVoice();
        tiesByNumber();
        ordersByRules();
        sealsAndWinner();
        allFail();
        feesByStages();
        everyCount();
        Due.end();
    }

    private static int[] outside(int bound) {
        return new int[] {MIN, -2, -1, bound, bound + 1, MAX};
    }

    /** A jury with schemes of authors 10 on, all handed in, and some jurors. */
    private static BuildingJury jury(int schemes, int jurors, String text) {
        BuildingJury x = Due.good(text);
        for (int k = 0; k < schemes; k++) {
            x.scheme(10 + k);
            x.hand(k);
        }
        for (int k = 0; k < jurors; k++) {
            x.juror();
        }
        return x;
    }

    private static void are(String what, ToIntFunction<Integer> ask, int... want) {
        for (int k = 0; k < want.length; k++) {
            Due.due(what + " of " + k, ask.applyAsInt(k), want[k]);
        }
    }

    // ---- authors and questions

    private static void lettersOfAuthors() {
        for (int b = 0; b < 256; b++) {
            boolean letter = b >= 'a' && b <= 'z';
            String[] names = {"" + (char) b, (char) b + "bcdefgh", "abcdefg" + (char) b, "ab" + (char) b + "d"};
            for (String name : names) {
                BuildingJury x = new BuildingJury();
                Due.due("name with byte " + b, Due.calls(x, 0, name), letter);
                Due.due("the tape is empty", x.count(13), 0);
                Due.due("it is known", Due.ask(x, name, 1), letter ? -1 : 0);
            }
        }
    }

    private static void howMuchIsAName() {
        String letters = "abcdefghijklmnopqrst";
        for (int n = 0; n <= 20; n++) {
            BuildingJury x = new BuildingJury();
            Due.tape(x, letters);
            Due.due("letters " + n, x.calls(39, n), n >= 1 && n <= 8);
            Due.due("the tape is empty", x.count(13), 0);
            Due.due("told", Due.ask(x, letters.substring(0, n), 1), n >= 1 && n <= 8 ? -1 : 0);
        }
        BuildingJury x = new BuildingJury();
        Due.tape(x, letters);
        for (int n : new int[] {MIN, -1, 21, MAX}) {
            Due.due("letters " + n, x.calls(0, n), false);
        }
        for (int author : outside(40)) {
            Due.due("author " + author, x.calls(author, 3), false);
            Due.due("author " + author, x.calls(author, 9), false);
        }
        Due.due("the tape stays", x.count(13), 20);
        Due.due("author 0", x.calls(0, 3), true);
        Due.due("none of none", x.calls(0, 0), false);
        Due.due("one of none", x.calls(0, 1), false);
        Due.due("a name stays", Due.ask(x, "abc", 1), -1);
        Due.due("a fault", Due.calls(x, 0, "abcdefghi"), false);
        Due.due("a name stays", Due.ask(x, "abc", 1), -1);
        Due.due("another", Due.calls(x, 0, "abcd"), true);
        Due.due("the other alone", Due.ask(x, "abc", 1), 0);
        Due.due("the other alone", Due.ask(x, "abcd", 1), -1);
        Due.due("one name of two", Due.calls(x, 39, "abcd"), true);
        Due.due("one is named anew", Due.calls(x, 0, "z"), true);
        Due.due("the other's still", Due.ask(x, "abcd", 1), -1);
    }

    private static void wordsThatTell() {
        BuildingJury x = new BuildingJury();
        Due.calls(x, 0, "bo");
        Due.calls(x, 39, "annaanna");
        String[] telling = {"bo", "bo ", " bo", "bo?", "?bo", "4bo4", "Abo", "boA", "is it bo", "bo is it", "annaanna", "by annaanna, or",
            "x\nbo\nx", "\u00ffbo\u00ff", "`bo{", "boo bo boo", "bo bo"};
        for (String text : telling) {
            Due.due("telling " + text, Due.ask(x, text, 1), -1);
        }
        Due.due("told nobody", x.count(9), telling.length);
        String[] open = {"", "b", "o", "boo", "bbo", "b o", "b4o", "BO", "Bo", "annaann", "annaannaa", "aannaanna", "anna anna",
            "annaannab"};
        for (int k = 0; k < open.length; k++) {
            Due.due("open " + open[k], Due.ask(x, open[k], 1), k);
        }
        Due.due("told nobody", x.count(9), telling.length);
        Due.due("answered", x.count(8), open.length);
        Due.tape(x, "is it bo");
        Due.due("but for the name", x.ask(6, 1), open.length);
        Due.tape(x, "is it bo");
        Due.due("but for its end", x.ask(7, 1), open.length + 1);
    }

    private static void fiftyQuestions() {
        BuildingJury x = new BuildingJury();
        Due.calls(x, 3, "bo");
        for (int k = 0; k < 50; k++) {
            Due.due("question " + k, x.ask(0, k == 0 ? MIN : k == 49 ? MAX : -k), k);
            Due.due("answered", x.count(8), k + 1);
        }
        Due.tape(x, "bo");
        for (int n : new int[] {0, 1, 2, 20}) {
            Due.due("one more of " + n, x.ask(n, 1), -2);
        }
        Due.due("the tape stays", x.count(13), 20);
        Due.due("answered", x.count(8), 50);
        Due.due("told nobody", x.count(9), 0);
        Due.due("the first", x.answered(0, 1), MIN);
        Due.due("the second", x.answered(1, 1), -1);
        Due.due("the last", x.answered(49, 1), MAX);
        x = new BuildingJury();
        Due.calls(x, 3, "bo");
        for (int k = 0; k < 60; k++) {
            Due.due("nobody", Due.ask(x, "bo", k), -1);
            Due.due("told nobody", x.count(9), k + 1);
        }
        Due.due("answered", x.count(8), 0);
        Due.due("none is kept", x.answered(0, 0), -1);
        Due.due("the first", x.ask(0, 7), 0);
    }

    private static void whatWasAnswered() {
        BuildingJury x = new BuildingJury();
        Due.tape(x, "abcdefghi is, it? 4u");
        for (int n : new int[] {MIN, -1, 21, MAX}) {
            Due.due("ask " + n, x.ask(n, 1), -2);
            Due.due("the tape stays", x.count(13), 20);
        }
        Due.due("all of it", x.ask(20, 5), 0);
        x.day(1000);
        Due.tape(x, "abcdefghi is, it? 4u");
        Due.due("one byte of it", x.ask(1, 0), 1);
        Due.due("nothing", x.ask(0, -5), 2);
        Due.due("one of none", x.ask(1, 5), -2);
        int[][] want = {{0, 5, 4}, {1000, 0, 1}, {1000, -5, 0}};
        for (int q = 0; q < 3; q++) {
            int question = q;
            are("answered " + q, what -> x.answered(question, what), want[q]);
            for (int what : outside(3)) {
                Due.due("what " + what, x.answered(q, what), -1);
            }
        }
        for (int question : outside(3)) {
            Due.due("question " + question, x.answered(question, 0), -1);
        }
        Due.tape(x, "a ".repeat(450));
        Due.due("as many words as there may be", x.ask(900, 1), 3);
        Due.due("words", x.answered(3, 2), 450);
        Due.tape(x, "a".repeat(900));
        Due.due("the longest word", x.ask(900, 1), 4);
        Due.due("words", x.answered(4, 2), 1);
    }

    // ---- jurors and their rows

    private static void sevenJurors() {
        BuildingJury x = new BuildingJury();
        Due.due("nobody knows", x.knows(0, 0, 0), false);
        for (int k = 0; k < 7; k++) {
            Due.due("juror " + k, x.juror(), k);
            Due.due("jurors", x.count(5), k + 1);
            Due.due("knows", x.knows(k, 39, 0), true);
            Due.due("the next one", x.knows(k + 1, 39, 0), false);
        }
        Due.due("an eighth", x.juror(), -1);
        Due.due("jurors", x.count(5), 7);
        for (int juror : outside(7)) {
            Due.due("juror " + juror, x.knows(juror, 0, 0), false);
        }
        for (int author : outside(40)) {
            Due.due("author " + author, x.knows(0, author, 0), false);
        }
        for (int day : outside(1001)) {
            Due.due("day " + day, x.knows(0, 0, day), false);
        }
        Due.due("the last day", x.knows(0, 0, 1000), true);
        Due.due("told again", x.knows(0, 0, 1000), true);
    }

    private static void earliestDay() {
        int[][] told = {{5, 9, 5}, {9, 5, 5}, {5, 5, 5}, {0, 1000, 0}, {1000, 1, 1}, {1000, 1000, 1000}};
        for (int[] t : told) {
            BuildingJury x = jury(1, 1, "");
            x.open();
            x.marks(0, 1);
            x.knows(0, 10, t[0]);
            x.knows(0, 10, t[1]);
            if (t[2] > 0) {
                if (t[2] > 1) {
                    x.day(t[2] - 1);
                }
                Due.due("the day before " + t[2], x.voice(1, 0), 1);
                x.day(t[2]);
            }
            Due.due("the day " + t[2], x.voice(1, 0), 0);
            x.knows(0, 10, 1000);
            Due.due("no later one holds", x.voice(1, 0), 0);
            x.knows(0, 10, 1001);
            x.knows(0, 10, -1);
            Due.due("nor none", x.voice(1, 0), 0);
        }
    }

    private static void digitsOfRows() {
        BuildingJury x = jury(3, 2, "");
        Due.due("none is open", x.marks(0, 1), -1);
        x.open();
        long[] good = {0, 1, 2, 3, 0x12, 0x21, 0x13, 0x32, 0x123, 0x321, 0x213};
        int[] many = {0, 1, 1, 1, 2, 2, 2, 2, 3, 3, 3};
        for (int k = 0; k < good.length; k++) {
            Due.due("row " + Long.toHexString(good[k]), x.marks(1, good[k]), many[k]);
        }
        long[] bad = {4, 0xA, 0xB, 0xF, 0x10, 0x14, 0x41, 0x11, 0x22, 0x33, 0x120, 0x102, 0x1230, 0x1023, 0x1231, 0x1232, 0x1233,
            0x1000000000L, 0x3000000000L, 0x1000000002L, 0x10000000000L, 0x20000000000L, 0x10000000003L, 1L << 44, 1L << 59,
            1L << 60, 1L << 62, 1L << 63, (1L << 63) + 1, -1, -2, -3, -0x123, Long.MAX_VALUE, Long.MIN_VALUE};
        for (long row : bad) {
            Due.due("row " + Long.toHexString(row), x.marks(1, row), -1);
            Due.due("the row stays", x.points(1, 1, 1), 3);
        }
        for (int juror : outside(2)) {
            Due.due("juror " + juror, x.marks(juror, 1), -1);
        }
        Due.due("the row stays", x.points(1, 1, 0), 2);
        Due.due("no row", x.marks(1, 0), 0);
        are("no points", k -> x.points(1, 1, k), 0, 0, 0, -1);
        x.close();
        Due.due("none is open", x.marks(1, 1), -1);
        Due.due("none is open", x.marks(1, 0), -1);
    }

    private static void rowsOfTen() {
        BuildingJury x = jury(9, 7, "");
        x.open();
        Due.due("nine", x.marks(0, 0x987654321L), 9);
        Due.due("no tenth", x.marks(0, 0xA987654321L), -1);
        Due.due("no tenth", x.marks(0, 0xA), -1);
        Due.due("the tenth", x.scheme(1), 9);
        Due.due("ten", x.marks(0, 0xA987654321L), 10);
        Due.due("ten the other way", x.marks(1, 0x123456789AL), 10);
        Due.due("one more", x.marks(1, 0x1123456789AL), -1);
        Due.due("no eleventh", x.marks(1, 0xB23456789AL), -1);
        Due.due("a ten twice", x.marks(1, 0xA23456789AL), -1);
        Due.due("a one twice", x.marks(1, 0x1234567891L), -1);
        Due.due("the last of none", x.marks(1, 0x1234567890L), -1);
        are("nine in the round", k -> x.points(1, 1, k), 10, 10, 10, 10, 10, 10, 10, 10, 10, -1);
        are("first", k -> x.points(1, 0, k), 1, 0, 0, 0, 0, 0, 0, 0, 1, -1);
        for (int juror = 1; juror < 7; juror++) {
            x.marks(juror, 0xA987654321L);
        }
        are("seven", k -> x.points(1, 1, k), 7, 14, 21, 28, 35, 42, 49, 56, 63, -1);
        are("seven", k -> x.points(1, 0, k), 0, 0, 0, 0, 0, 0, 0, 0, 7, -1);
        are("seven", k -> x.points(1, 2, k), 0, 2, 4, 6, 8, 10, 12, 14, 16, -1);
    }

    // ---- rounds

    private static void roundsOfOneAndTen() {
        for (int schemes : new int[] {1, 2, 9, 10}) {
            BuildingJury x = jury(schemes, 0, "keep 10;");
            Due.due("none is open", x.close(), -1);
            Due.due("the first", x.open(), schemes);
            Due.due("one is open", x.open(), -1);
            Due.due("it is the first", x.count(6), 1);
            Due.due("kept", x.close(), schemes);
            Due.due("none is open", x.close(), -1);
            Due.due("closed", x.count(7), 1);
            Due.due("the second", x.open(), schemes);
            Due.due("one is open", x.open(), -1);
            Due.due("it is the second", x.count(6), 2);
            Due.due("ordered", x.close(), schemes);
            Due.due("none is open", x.close(), -1);
            Due.due("two were", x.open(), -1);
            Due.due("closed", x.count(7), 2);
            for (int round = 1; round <= 2; round++) {
                for (int k = 0; k < 10; k++) {
                    Due.due("order " + k, x.order(round, -1, k), k < schemes ? k : -1);
                    Due.due("points " + k, x.points(round, 0, k), k < schemes ? 0 : -1);
                }
                for (int k : outside(schemes)) {
                    Due.due("order " + k, x.order(round, -1, k), -1);
                }
            }
        }
        BuildingJury x = new BuildingJury();
        Due.due("no scheme", x.open(), -1);
        x.scheme(0);
        Due.due("none handed in", x.open(), -1);
        Due.due("none is open", x.count(6), 0);
        x.hand(0);
        Due.due("one", x.open(), 1);
    }

    private static void handedInForRounds() {
        BuildingJury x = new BuildingJury();
        Due.brief(x, "out if cells=0;out if late=1;close 1;");
        for (int k = 0; k < 5; k++) {
            x.scheme(k);
            x.draw(k, 0, 0, 0, 0, 0, k == 1 ? 0 : 1);
        }
        x.hand(0);
        x.hand(1);
        x.day(1);
        x.hand(2);
        x.day(2);
        Due.brief(x, "");
        x.hand(3);
        Due.due("as of their days", x.open(), 3);
        are("in it", k -> x.points(1, 0, k), 0, -1, 0, 0, -1, -1);
        x.hand(4);
        Due.brief(x, "out if cells=1;");
        are("as it was opened", k -> x.points(1, 0, k), 0, -1, 0, 0, -1, -1);
        Due.due("kept", x.close(), 3);
        Due.due("the second is of those", x.open(), 3);
        are("kept", k -> x.points(2, 0, k), 0, -1, 0, 0, -1, -1);
    }

    private static void firstRankPair() {
        BuildingJury x = jury(4, 7, "");
        x.scheme(1);
        x.open();
        are("no rows", k -> x.points(1, 0, k), 0, 0, 0, 0, -1);
        are("no rows", k -> x.points(1, 1, k), 0, 0, 0, 0, -1);
        are("no rows", k -> x.points(1, 2, k), 3, 3, 3, 3, -1);
        x.marks(0, 0x5);
        are("none of the round", k -> x.points(1, 0, k), 0, 0, 0, 0, -1);
        are("none of the round", k -> x.points(1, 1, k), 0, 0, 0, 0, -1);
        are("none of the round", k -> x.points(1, 2, k), 3, 3, 3, 3, -1);
        x.marks(0, 0x54);
        are("first of the round", k -> x.points(1, 0, k), 0, 0, 0, 1, -1);
        are("first of the round", k -> x.points(1, 1, k), 0, 0, 0, 4, -1);
        are("first of the round", k -> x.points(1, 2, k), 2, 2, 2, 6, -1);
        x.marks(0, 0x25143);
        are("a whole row", k -> x.points(1, 0, k), 0, 1, 0, 0, -1);
        are("a whole row", k -> x.points(1, 1, k), 3, 4, 1, 2, -1);
        are("a whole row", k -> x.points(1, 2, k), 4, 6, 0, 2, -1);
        for (int rule : outside(3)) {
            Due.due("rule " + rule, x.points(1, rule, 0), -1);
        }
        for (int scheme : outside(4)) {
            Due.due("scheme " + scheme, x.points(1, 0, scheme), -1);
        }
        for (int round : new int[] {MIN, -1, 0, 2, 3, MAX}) {
            Due.due("round " + round, x.points(round, 0, 0), -1);
            Due.due("voice of round " + round, x.voice(round, 0), -1);
        }
    }

    private static void pairsByRows() {
        BuildingJury x = jury(3, 4, "");
        x.open();
        x.marks(0, 0x1);
        are("in it or not", k -> x.points(1, 2, k), 4, 1, 1);
        x.marks(1, 0x2);
        are("as many", k -> x.points(1, 2, k), 3, 3, 0);
        x.marks(2, 0x3);
        are("as many", k -> x.points(1, 2, k), 2, 2, 2);
        x.marks(3, 0x31);
        are("one more", k -> x.points(1, 2, k), 2 + 0, 0 + 0, 2 + 2);
        x.marks(3, 0x312);
        are("the same", k -> x.points(1, 2, k), 2 + 0, 0 + 0, 2 + 2);
        x.marks(3, 0);
        are("as many", k -> x.points(1, 2, k), 2, 2, 2);
    }

    private static void voicesByDays() {
        BuildingJury x = jury(2, 2, "keep 1;");
        x.open();
        x.marks(0, 0x21);
        x.marks(1, 0x12);
        x.knows(0, 11, 3);
        x.knows(1, 10, 4);
        x.day(3);
        Due.due("from that day on", x.voice(1, 0), 0);
        Due.due("not yet", x.voice(1, 1), 1);
        are("first", k -> x.points(1, 0, k), 1, 0);
        Due.due("kept", x.close(), 1);
        x.day(1000);
        Due.due("fixed", x.voice(1, 0), 0);
        Due.due("fixed", x.voice(1, 1), 1);
        are("fixed", k -> x.points(1, 0, k), 1, 0);
        x.knows(1, 10, 0);
        Due.due("fixed", x.voice(1, 1), 1);
        are("fixed", k -> x.order(1, -1, k), 0, 1);
        for (int juror : outside(2)) {
            Due.due("juror " + juror, x.voice(1, juror), -1);
        }
        Due.due("the second isn't opened", x.voice(2, 0), -1);
        Due.due("the second", x.open(), 1);
        Due.due("no row", x.voice(2, 1), 1);
        x.marks(1, 0x2);
        Due.due("one that isn't in it", x.voice(2, 1), 1);
        x.marks(1, 0x1);
        Due.due("one that is", x.voice(2, 1), 0);
        Due.due("the first is fixed", x.voice(1, 1), 1);
    }

    /** "an AUTHOR of a scheme that is in that ROUND and in the juror's row" */
    private static void voicesOfThatRound() {
        BuildingJury x = new BuildingJury();
        x.scheme(7);
        x.scheme(7);
        x.scheme(8);
        x.hand(0);
        x.hand(2);
        x.juror();
        x.knows(0, 7, 0);
        x.open();
        x.marks(0, 0x2);
        Due.due("not handed in", x.voice(1, 0), 1);
        x.marks(0, 0x23);
        Due.due("not handed in", x.voice(1, 0), 1);
        Due.due("points", x.points(1, 0, 2), 1);
        x.marks(0, 0x31);
        Due.due("by the same author", x.voice(1, 0), 0);
        Due.due("points", x.points(1, 0, 2), 0);
        x.marks(0, 0x3);
        Due.due("not in the row", x.voice(1, 0), 1);
    }

    private static void keptFromOneToTen() {
        for (int keep = 1; keep <= 10; keep++) {
            BuildingJury x = jury(10, 1, "vote rank;keep " + keep + ";");
            x.open();
            x.marks(0, 0xA987654321L);
            Due.due("keep " + keep, x.close(), keep);
            Due.due("the second", x.open(), keep);
            for (int k = 0; k < 10; k++) {
                Due.due("kept " + k, x.points(2, 0, k), k >= 10 - keep ? 0 : -1);
                Due.due("order " + k, x.order(1, -1, k), 9 - k);
            }
            Due.due("ordered", x.close(), keep);
        }
        BuildingJury x = jury(10, 1, "vote rank;");
        x.open();
        x.marks(0, 0xA987654321L);
        Due.due("none told", x.close(), 3);
        x = jury(2, 1, "vote rank;keep 3;");
        x.open();
        x.marks(0, 0x12);
        Due.due("fewer than are kept", x.close(), 2);
    }

    private static void keptWithAsMany() {
        for (int keep = 1; keep <= 10; keep++) {
            BuildingJury x = jury(10, 7, "vote first;keep " + keep + ";");
            x.open();
            int[] firsts = {9, 9, 3, 2, 5, 7, 9};
            for (int juror = 0; juror < 7; juror++) {
                x.marks(juror, firsts[juror] + 1);
            }
            int kept = keep == 1 ? 1 : keep <= 5 ? 5 : 10;
            Due.due("keep " + keep, x.close(), kept);
            x.open();
            for (int k = 0; k < 10; k++) {
                boolean in = keep > 5 || k == 9 || keep > 1 && (k == 2 || k == 3 || k == 5 || k == 7);
                Due.due("kept " + k, x.points(2, 0, k), in ? 0 : -1);
            }
        }
        BuildingJury x = jury(10, 0, "keep 1;");
        x.open();
        Due.due("all have none", x.close(), 10);
    }

    private static void tiesByHead() {
        BuildingJury x = jury(4, 2, "tie head;vote first;keep 10;");
        x.open();
        x.marks(0, 0x0);
        x.marks(1, 0x4);
        x.close();
        are("no head row", k -> x.order(1, -1, k), 3, 0, 1, 2, -1);
        x.open();
        x.marks(0, 0x3);
        x.marks(1, 0x2);
        x.close();
        are("one in it", k -> x.order(2, -1, k), 2, 1, 0, 3, -1);
    }

    private static void tiesWithoutVoice() {
        BuildingJury x = jury(4, 2, "tie head;vote first;keep 10;");
        x.scheme(0);
        x.open();
        x.marks(0, 0x543);
        x.marks(1, 0x1);
        x.knows(0, 12, 0);
        Due.due("the head has no voice", x.voice(1, 0), 0);
        x.close();
        are("but ties", k -> x.order(1, -1, k), 0, 3, 2, 1, -1);
        are("but ties by rank", k -> x.order(1, 1, k), 0, 3, 2, 1, -1);
        are("but ties by pair", k -> x.order(1, 2, k), 0, 3, 2, 1, -1);
        x.open();
        x.close();
        are("the first round's row is not the second's", k -> x.order(2, -1, k), 0, 1, 2, 3, -1);
    }

    private static void tiesByNumber() {
        BuildingJury x = jury(4, 2, "tie number;vote first;keep 10;");
        x.open();
        x.marks(0, 0x4321);
        x.marks(1, 0x1);
        x.close();
        are("by number", k -> x.order(1, -1, k), 0, 3, 1, 2, -1);
    }

    private static void ordersByRules() {
        BuildingJury x = jury(3, 5, "vote pair;");
        x.open();
        x.marks(0, 0x123);
        x.marks(1, 0x123);
        x.marks(2, 0x231);
        x.marks(3, 0x321);
        x.marks(4, 0x321);
        are("first", k -> x.points(1, 0, k), 2, 1, 2);
        are("rank", k -> x.points(1, 1, k), 3 + 3 + 1 + 1 + 1, 2 + 2 + 3 + 2 + 2, 1 + 1 + 2 + 3 + 3);
        are("pair", k -> x.points(1, 2, k), 0, 4, 2);
        for (int rule = -1; rule < 3; rule++) {
            Due.due("while it is open", x.order(1, rule, 0), -1);
        }
        x.day(1);
        Due.brief(x, "vote rank;tie head;keep 1;");
        Due.due("kept by the rule of today", x.close(), 1);
        are("its own", k -> x.order(1, -1, k), 1, 2, 0, -1);
        are("by first", k -> x.order(1, 0, k), 0, 2, 1, -1);
        are("by rank", k -> x.order(1, 1, k), 1, 2, 0, -1);
        are("by pair", k -> x.order(1, 2, k), 1, 2, 0, -1);
        for (int rule : new int[] {MIN, -2, 3, MAX}) {
            Due.due("rule " + rule, x.order(1, rule, 0), -1);
        }
        for (int round : new int[] {MIN, -1, 0, 2, 3, MAX}) {
            Due.due("round " + round, x.order(round, -1, 0), -1);
        }
        x.open();
        Due.due("while it is open", x.order(2, -1, 0), -1);
        Due.due("the first still", x.order(1, -1, 0), 1);
        x.close();
        Due.due("the second", x.order(2, -1, 0), 1);
        Due.due("of one", x.order(2, -1, 1), -1);
    }

    // ---- the winner and the fees

    private static void sealsAndWinner() {
        BuildingJury x = jury(2, 1, "");
        x.scheme(39);
        for (int step = 0; step < 4; step++) {
            are("sealed", x::author, -1, -1, -1, -1);
            Due.due("no winner", x.winner(), -1);
            Due.due("nobody fails", x.fail(), -2);
            Due.due("nobody is paid", x.pay(), -1);
            int done = step % 2 == 0 ? x.open() : x.close();
            Due.due("step " + step, done, 2);
        }
        are("opened", x::author, 10, 11, 39, -1);
        Due.due("the winner", x.winner(), 0);
        for (int scheme : outside(3)) {
            Due.due("author of " + scheme, x.author(scheme), -1);
        }
        x.scheme(0);
        Due.due("a new one's", x.author(3), 0);
    }

    private static void allFail() {
        for (int schemes : new int[] {1, 2, 10}) {
            BuildingJury x = jury(schemes, 0, "keep 10;");
            x.open();
            x.close();
            x.open();
            x.close();
            for (int k = 0; k < schemes; k++) {
                Due.due("the winner", x.winner(), k);
                Due.due("failed", x.count(14), k);
                Due.due("who comes next", x.fail(), k + 1 < schemes ? k + 1 : -1);
            }
            Due.due("all failed", x.winner(), -1);
            for (int k = 0; k < 3; k++) {
                Due.due("there is none", x.fail(), -2);
                Due.due("none to pay", x.pay(), -1);
            }
            Due.due("failed", x.count(14), schemes);
            Due.due("stages", x.count(12), 0);
            Due.due("fees", x.count(11), 0);
            Due.due("the order stays", x.order(2, -1, 0), 0);
        }
    }

    private static void feesByStages() {
        int[][] fees = {{0, 0, 0}, {1, 99, 100}, {100, 100, 100}, {33, 66, 7}};
        for (int[] fee : fees) {
            BuildingJury x = new BuildingJury();
            Due.brief(x, "wall 0;way 199;fee 1 1 1;");
            for (int k = 0; k < 2; k++) {
                x.scheme(k);
                x.draw(k, 1, 9, 7 - k, 9, 7, 13);
                x.hand(k);
            }
            x.open();
            x.close();
            x.open();
            x.close();
            x.day(1);
            Due.brief(x, "way 9999;fee " + fee[0] + " " + fee[1] + " " + fee[2] + ";");
            int sum = 0;
            for (int k = 0; k < 2; k++) {
                for (int stage = 0; stage < 3; stage++) {
                    int due = 199 * (k + 1) * fee[stage] / 100;
                    Due.due("stages", x.count(12), stage);
                    Due.due("stage " + stage, x.pay(), due);
                    sum += due;
                    Due.due("fees", x.count(11), sum);
                }
                Due.due("all are paid", x.pay(), -1);
                Due.due("all are paid", x.pay(), -1);
                Due.due("stages", x.count(12), 3);
                Due.due("fees stay", x.count(11), sum);
                Due.due("fail", x.fail(), k == 0 ? 1 : -1);
                Due.due("stages of the next", x.count(12), 0);
                Due.due("fees stay", x.count(11), sum);
            }
            Due.due("nobody", x.pay(), -1);
        }
        BuildingJury x = jury(1, 0, "");
        x.open();
        x.close();
        x.open();
        x.close();
        for (int stage = 0; stage < 3; stage++) {
            Due.due("of nothing", x.pay(), 0);
            Due.due("stages", x.count(12), stage + 1);
        }
        Due.due("all are paid", x.pay(), -1);
        x = dearest();
        Due.due("half of the dearest", x.pay(), x.cost(0, 0, 0) / 2);
        x.day(1);
        Due.brief(x, "fee 100 100 100;");
        Due.due("all of it", x.pay(), x.cost(0, 0, 0));
        Due.due("all of it", x.pay(), 160 * 9999 + 72 * 9999);
    }

    private static BuildingJury dearest() {
        BuildingJury x = new BuildingJury();
        Due.brief(x, "wall 9999;stair 9999;fee 50 20 10;");
        x.scheme(0);
        x.draw(0, 0, 0, 0, 9, 7, 14);
        x.draw(0, 1, 0, 0, 9, 7, 14);
        x.hand(0);
        x.open();
        x.close();
        x.open();
        x.close();
        return x;
    }

    private static void everyCount() {
        BuildingJury x = new BuildingJury();
        are("new", x::count, 0, 0, 0, 0, 0, 0, 0, 0, 0, 0, 0, 0, 0, 0, 0, -1, -1);
        x.day(2);
        Due.brief(x, "room a least 0;fee 100 1 1;");
        Due.brief(x, "room b least 0;?");
        are("a brief", x::count, 2, 1, 1, 0, 0, 0, 0, 0, 0, 0, 0, 0, 0, 0, 0, -1);
        for (int k = 0; k < 4; k++) {
            x.scheme(k);
            x.draw(k, 0, 0, 0, 0, 0, 13);
        }
        x.hand(3);
        x.hand(1);
        x.juror();
        x.juror();
        x.juror();
        are("schemes", x::count, 2, 1, 1, 4, 2, 3, 0, 0, 0, 0, 0, 0, 0, 0, 0, -1);
        Due.calls(x, 0, "bo");
        Due.ask(x, "bo", 1);
        Due.ask(x, "bo", 1);
        Due.ask(x, "oh", 1);
        x.alike(0, 1);
        x.alike(1, 0);
        x.alike(2, 0);
        Due.tape(x, "123456789012345678901");
        x.open();
        are("asked", x::count, 2, 1, 1, 4, 2, 3, 1, 0, 1, 2, 2, 0, 0, 40, 0, -1);
        x.close();
        are("closed", x::count, 2, 1, 1, 4, 2, 3, 0, 1, 1, 2, 2, 0, 0, 40, 0, -1);
        x.open();
        are("the second", x::count, 2, 1, 1, 4, 2, 3, 2, 1, 1, 2, 2, 0, 0, 40, 0, -1);
        x.close();
        x.pay();
        are("paid", x::count, 2, 1, 1, 4, 2, 3, 0, 2, 1, 2, 2, 90, 1, 40, 0, -1);
        x.fail();
        are("failed", x::count, 2, 1, 1, 4, 2, 3, 0, 2, 1, 2, 2, 90, 0, 40, 1, -1);
        x.most(0);
        are("looked at", x::count, 2, 1, 1, 4, 2, 3, 0, 2, 1, 2, 6, 90, 0, 40, 1, -1);
        for (int what : outside(15)) {
            Due.due("count " + what, x.count(what), -1);
        }
    }
}
