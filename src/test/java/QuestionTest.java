/** Promises 21 to 23: the names of authors and the questions. */
public final class QuestionTest {

    public static void main(String[] args) {
        callsNames();
        asks();
        wordsCounted();
        fiftyAnswered();
        Due.end();
    }

    private static void callsNames() {
        BuildingJury x = new BuildingJury();
        Due.tape(x, "anna");
        Due.due("author -1", x.calls(-1, 4), false);
        Due.due("author 40", x.calls(40, 4), false);
        Due.due("n -1", x.calls(0, -1), false);
        Due.due("n 21", x.calls(0, 21), false);
        Due.due("tape stays", x.count(13), 20);
        Due.due("anna", x.calls(0, 4), true);
        Due.due("tape is empty", x.count(13), 0);
        String[] bad = {"", "Anna", " ann", "an na", "ann4", "annaanna" + "a", "ann\n"};
        for (String name : bad) {
            Due.due("bad name " + name, Due.calls(x, 1, name), false);
            Due.due("tape is empty", x.count(13), 0);
        }
        Due.due("anna is known", Due.ask(x, "anna", 1), -1);
        Due.due("ann is not", Due.ask(x, "ann", 1), 0);
        Due.due("eight letters", Due.calls(x, 39, "abcdefgh"), true);
        Due.due("they are known", Due.ask(x, "?abcdefgh!", 1), -1);
        Due.due("nine are not", Due.ask(x, "abcdefghi", 1), 1);
        Due.due("nine are not", Due.ask(x, "aabcdefgh", 1), 2);
        Due.due("a room's word", Due.calls(x, 5, "room"), true);
        Due.due("it is known", Due.ask(x, "a room", 1), -1);
        Due.due("another name", Due.calls(x, 0, "berta"), true);
        Due.due("berta is known", Due.ask(x, "is berta here", 1), -1);
        Due.due("anna is nobody now", Due.ask(x, "anna", 1), 3);
        Due.due("a bad name", Due.calls(x, 0, "B"), false);
        Due.due("berta still", Due.ask(x, "berta", 1), -1);
        Due.due("told nobody", x.count(9), 5);
    }

    private static void asks() {
        BuildingJury x = new BuildingJury();
        Due.tape(x, "is it anna's");
        Due.due("n -1", x.ask(-1, 3), -2);
        Due.due("n 21", x.ask(21, 3), -2);
        Due.due("tape stays", x.count(13), 20);
        Due.due("no name yet", x.ask(12, 3), 0);
        Due.due("tape is empty", x.count(13), 0);
        Due.calls(x, 7, "anna");
        x.day(4);
        Due.due("told nobody", Due.ask(x, "is it anna's", 5), -1);
        Due.due("tape is empty", x.count(13), 0);
        Due.due("the first bytes alone", x.ask(Due.tape(x, "is it anna's") - 3, 6), 1);
        Due.due("another word", Due.ask(x, "is it annas", -7), 2);
        int[][] want = {{0, 3, 4}, {4, 6, 3}, {4, -7, 3}};
        for (int q = 0; q < want.length; q++) {
            for (int what = 0; what < 3; what++) {
                Due.due("answered " + q + ", " + what, x.answered(q, what), want[q][what]);
            }
        }
        Due.due("answered 0, 3", x.answered(0, 3), -1);
        Due.due("answered 0, -1", x.answered(0, -1), -1);
        Due.due("answered 3", x.answered(3, 0), -1);
        Due.due("answered -1", x.answered(-1, 0), -1);
        Due.due("answered", x.count(8), 3);
        Due.due("told nobody", x.count(9), 1);
    }

    private static void words(String text, int want) {
        BuildingJury x = new BuildingJury();
        Due.due("ask " + text, Due.ask(x, text, 1), 0);
        Due.due("words of " + text, x.answered(0, 2), want);
    }

    private static void wordsCounted() {
        words("", 0);
        words("   ?", 0);
        words("a", 1);
        words("a b", 2);
        words("Who is it", 3);
        words("it4it", 2);
        words("aVb", 2);
        words("abcdefghijklmnopq r", 2);
        words("a-b\nc\u00ffd{e`f", 6);
    }

    private static void fiftyAnswered() {
        BuildingJury x = new BuildingJury();
        Due.calls(x, 7, "anna");
        for (int i = 0; i < 50; i++) {
            Due.due("nobody " + i, Due.ask(x, "anna", 5), -1);
            Due.due("question " + i, x.ask(0, i), i);
        }
        Due.tape(x, "anna");
        Due.due("one more", x.ask(3, 50), -2);
        Due.due("one more that tells", x.ask(4, 50), -2);
        Due.due("tape stays", x.count(13), 20);
        Due.due("the last", x.answered(49, 1), 49);
        Due.due("none such", x.answered(50, 1), -1);
        Due.due("answered", x.count(8), 50);
        Due.due("told nobody", x.count(9), 50);
    }
}
