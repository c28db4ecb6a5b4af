/** What the project's tests share: counting wrong answers and feeding texts to a jury's tape. */
final class Due {
    private static int wrong = 0;

    private Due() {
    }

    static void due(String call, long got, long want) {
        if (got != want) {
            wrong++;
            System.out.println(call + " answered " + got + ", due is " + want);
        }
    }

    static void due(String call, boolean got, boolean want) {
        due(call, got ? 1 : 0, want ? 1 : 0);
    }

    /** Puts a text on the tape, with blanks behind it as feed() takes twenty bytes. */
    static int tape(BuildingJury jury, String text) {
        int[] bytes = new int[text.length()];
        for (int i = 0; i < bytes.length; i++) {
            bytes[i] = text.charAt(i);
        }
        for (int i = 0; i < bytes.length; i += 20) {
            jury.feed(four(bytes, i), four(bytes, i + 4), four(bytes, i + 8), four(bytes, i + 12), four(bytes, i + 16));
        }
        return bytes.length;
    }

    private static int four(int[] bytes, int from) {
        int number = 0;
        for (int i = from; i < from + 4; i++) {
            number = number << 8 | (i < bytes.length ? bytes[i] : 32);
        }
        return number;
    }

    static int brief(BuildingJury jury, String text) {
        return jury.brief(tape(jury, text));
    }

    static boolean calls(BuildingJury jury, int author, String text) {
        return jury.calls(author, tape(jury, text));
    }

    static int ask(BuildingJury jury, String text, int answer) {
        return jury.ask(tape(jury, text), answer);
    }

    /** A brief that is no such text, and where. */
    static void fault(String text, int place) {
        BuildingJury jury = new BuildingJury();
        due("brief(" + text + ")", brief(jury, text), -1);
        due("fault of " + text, jury.fault(), place);
        due("briefs behind " + text, jury.count(1), 0);
        due("tape behind " + text, jury.count(13), 0);
        due("names behind " + text, jury.count(2), 0);
    }

    /** A brief that is taken. */
    static BuildingJury good(String text) {
        BuildingJury jury = new BuildingJury();
        due("brief(" + text + ")", brief(jury, text), 0);
        due("fault of " + text, jury.fault(), -1);
        return jury;
    }

    static void end() {
        if (wrong != 0) {
            System.out.println(wrong + " answers are not as due");
            System.exit(1);
        }
    }
}
