/**
 * The sentences of promises 1 to 8, and of the terms they rest on, that name a boundary: the last
 * value within it and the first beyond it.
 */
public final class TextBoundsTest {
    private static final int MIN = Integer.MIN_VALUE;
    private static final int MAX = Integer.MAX_VALUE;

    public static void main(String[] args) {
        daysFromFirstToLast();
        tapeFromEmptyToFull();
        bytesInOrder();
        howMuchOfTheTape();
        sixBriefs();
        blanksAndOtherBytes();
        lettersAndDigits();
        tokensAsLongAsTheyGo();
        nameLengths();
        twelveNames();
        numbersOfEachKind();
        zerosAndTens();
        tenOpen();
        openOnesClosed();
        fortyFirst();
        longestText();
        moreMustCome();
        lastOneTold();
        bareAndBound();
        oneRoomOrTwelve();
        Due.end();
    }

    private static void daysFromFirstToLast() {
        BuildingJury x = new BuildingJury();
        for (int d : new int[] {MIN, -1, 0, 1001, MAX}) {
            Due.due("day " + d, x.day(d), false);
            Due.due("today", x.count(0), 0);
        }
        Due.due("the first one later", x.day(1), true);
        Due.due("today", x.count(0), 1);
        Due.due("the same", x.day(1), false);
        Due.due("one before", x.day(0), false);
        Due.due("the last but one", x.day(999), true);
        Due.due("above the last", x.day(1001), false);
        Due.due("today", x.count(0), 999);
        Due.due("the last", x.day(1000), true);
        Due.due("the last again", x.day(1000), false);
        Due.due("above the last", x.day(1001), false);
        Due.due("today", x.count(0), 1000);
        x = new BuildingJury();
        Due.due("the last at once", x.day(1000), true);
    }

    private static void tapeFromEmptyToFull() {
        BuildingJury x = new BuildingJury();
        Due.due("empty", x.count(13), 0);
        for (int i = 1; i <= 45; i++) {
            Due.due("feed " + i, x.feed(0x61616161, 0x61616161, 0x61616161, 0x61616161, 0x61616120), 20 * i);
        }
        Due.due("more than 900", x.feed(0x20202020, 0x20202020, 0x20202020, 0x20202020, 0x20202020), -1);
        Due.due("900", x.count(13), 900);
        Due.due("all of it is a question", x.ask(900, 1), 0);
        Due.due("its words", x.answered(0, 2), 45);
        Due.due("empty again", x.count(13), 0);
        Due.due("feed anew", x.feed(0, 0, 0, 0, 0), 20);
    }

    /** "of each number the highest first" */
    private static void bytesInOrder() {
        String text = "wall 1;way 2;stair 3";
        for (int place = 0; place < 20; place++) {
            BuildingJury x = new BuildingJury();
            int[] n = new int[5];
            for (int i = 0; i < 20; i++) {
                n[i / 4] = n[i / 4] << 8 | (i == place ? 255 : text.charAt(i));
            }
            x.feed(n[0], n[1], n[2], n[3], n[4]);
            Due.due("a byte of 255 at " + place, x.brief(20), -1);
            int word = place < 4 ? 0 : place > 6 && place < 10 ? 7 : place > 12 && place < 18 ? 13 : -1;
            boolean first = place == 0 || place == 7 || place == 13;
            Due.due("its fault", x.fault(), word < 0 || first ? place : word);
        }
        for (int n : new int[] {MIN, -1, 0, 1, MAX, 0x7FFFFFFF, 0x80000001}) {
            BuildingJury x = new BuildingJury();
            Due.due("feed " + n, x.feed(n, n, n, n, n), 20);
            Due.due("no such text", x.brief(1), -1);
            Due.due("its fault", x.fault(), 0);
        }
    }

    private static void howMuchOfTheTape() {
        BuildingJury x = new BuildingJury();
        Due.tape(x, "wall 1;way 2;");
        for (int n : new int[] {MIN, -1, 21, 22, MAX}) {
            Due.due("brief " + n, x.brief(n), -2);
            Due.due("the tape stays", x.count(13), 20);
            Due.due("no brief", x.count(1), 0);
        }
        Due.due("all there is", x.brief(20), 0);
        Due.due("way", x.law(0, 1), 2);
        Due.due("one of none", x.brief(1), -2);
        Due.due("none of none", x.brief(0), 1);
        Due.due("nothing is bare", x.law(0, 1), 50);
        Due.due("nothing's statements", x.law(0, 11), 0);
        Due.tape(x, "wall 1;way 2;");
        Due.due("one byte", x.brief(1), -1);
        Due.due("a word without an end", x.fault(), 0);
        Due.due("the rest is gone", x.count(13), 0);
        Due.tape(x, "wall 1;way 2;");
        Due.due("none of some", x.brief(0), 2);
        Due.due("the rest is gone", x.count(13), 0);
        Due.tape(x, "wall 1;way 2;");
        Due.due("but for the last", x.brief(12), -1);
        Due.due("the text's length", x.fault(), 12);
    }

    private static void sixBriefs() {
        BuildingJury x = new BuildingJury();
        for (int k = 0; k < 6; k++) {
            Due.due("a fault takes no number", Due.brief(x, "wall;"), -1);
            Due.due("its place", x.fault(), 4);
            Due.due("brief", Due.brief(x, "wall " + k + ";"), k);
            Due.due("none", x.fault(), -1);
            Due.due("briefs", x.count(1), k + 1);
        }
        Due.tape(x, "how is it");
        Due.due("none of it is a seventh", x.brief(0), -3);
        Due.due("all of it is a seventh", x.brief(20), -3);
        Due.due("below 0", x.brief(-1), -2);
        Due.due("more than there are", x.brief(21), -2);
        Due.due("the fault stays", x.fault(), -1);
        Due.due("briefs", x.count(1), 6);
        Due.due("the tape stays", x.ask(9, 4), 0);
        Due.due("its words", x.answered(0, 2), 3);
        Due.due("the last one binds", x.law(0, 0), 5);
    }

    /** "between them blanks (bytes 32 and 10)" */
    private static void blanksAndOtherBytes() {
        for (int b = 0; b < 256; b++) {
            BuildingJury x = new BuildingJury();
            String text = "wall" + (char) b + " 3;";
            boolean letter = b >= 'a' && b <= 'z';
            boolean digit = b >= '0' && b <= '9';
            boolean good = b == 32 || b == 10;
            Due.due("byte " + b, Due.brief(x, text), good ? 0 : -1);
            Due.due("its fault", x.fault(), good ? -1 : letter ? 0 : digit ? 6 : 4);
        }
        Due.good("\n\n wall\n3 \n;\n ");
        Due.good("wall 3;way 4;" + " ".repeat(887));
        Due.good("\n".repeat(900));
    }

    private static void lettersAndDigits() {
        for (int b = 0; b < 256; b++) {
            boolean letter = b >= 'a' && b <= 'z';
            boolean blank = b == 32 || b == 10;
            BuildingJury x = new BuildingJury();
            Due.due("a name of byte " + b, Due.brief(x, "room " + (char) b + " least 1;"), letter ? 0 : -1);
            Due.due("its fault", x.fault(), letter ? -1 : blank ? 7 : 5);
            boolean digit = b >= '0' && b <= '9';
            x = new BuildingJury();
            Due.due("a number of byte " + b, Due.brief(x, "way " + (char) b + ";"), digit ? 0 : -1);
            Due.due("its fault", x.fault(), digit ? -1 : blank ? 5 : 4);
            Due.due("the number", x.law(0, 1), digit ? b - '0' : 50);
            boolean sign = b == '<' || b == '=' || b == '>';
            x = new BuildingJury();
            Due.due("a sign of byte " + b, Due.brief(x, "out if ways" + (char) b + " 2;"), sign ? 0 : -1);
            Due.due("its fault", x.fault(), sign ? -1 : letter ? 7 : blank ? 13 : 11);
        }
    }

    private static void tokensAsLongAsTheyGo() {
        Due.good("wall5;way5;");
        Due.good("room a least4light5;near a a within6;apart a a by7;rate a8;");
        Due.good("cost most9span1;keep1;close2;fee1 2 3;vote first;tie head;");
        Due.good("out if(cells<1)or(cells<2)and not(cells<3);out if cells<1or cells<2and cells<3;");
        Due.fault("wall5way5;", 5);
        Due.fault("fee 1 23;", 8);
        Due.fault("fee 123;", 4);
        Due.fault("fee12 3;", 7);
        Due.fault("out if notcells<1;", 7);
        Due.fault("out if cells<1orcells<2;", 14);
        Due.fault("out ifcells<1;", 4);
        Due.fault("outif cells<1;", 0);
        Due.fault("room a least 1;near aa within 2;", 20);
        Due.fault("wall 12 34;", 8);
        Due.fault("out if cells<<1;", 13);
        Due.fault("out if cells< >1;", 14);
        Due.fault("out if cells>=1;", 13);
        Due.fault("out if cells==1;", 13);
    }

    private static void nameLengths() {
        String letters = "abcdefghi";
        for (int length = 1; length <= 9; length++) {
            String name = letters.substring(0, length);
            if (length == 9) {
                Due.fault("room " + name + " least 1;", 5);
                continue;
            }
            BuildingJury x = Due.good("room " + name + " least 1;rate " + name + " 7;");
            Due.due("letters of " + name, x.name(1, -1), length);
            for (int i = 0; i < length; i++) {
                Due.due("letter " + i + " of " + name, x.name(1, i), name.charAt(i));
            }
            Due.due("behind " + name, x.name(1, length), -1);
            Due.due("rate of " + name, x.law(0, 21), 7);
        }
        Due.fault("room a least 1;near abcdefghi a within 2;", 20);
        Due.fault("room a least 1;near a abcdefghi within 2;", 22);
        Due.fault("room abcdefgh least 1;rate abcdefghi 2;", 27);
        Due.fault("room abcdefgh least 1;rate abcdefg 2;", 27);
        BuildingJury x = Due.good("room z least 1;room zzzzzzzz least 1;room az least 1;room za least 1;rate za 4;rate z 1;");
        Due.due("names", x.count(2), 4);
        Due.due("z", x.name(1, 0), 'z');
        Due.due("zzzzzzzz", x.name(2, 7), 'z');
        Due.due("az", x.name(3, 0), 'a');
        Due.due("za", x.name(4, 0), 'z');
        Due.due("rate of z", x.law(0, 21), 1);
        Due.due("rate of za", x.law(0, 24), 4);
    }

    private static String rooms(char first, char last) {
        StringBuilder text = new StringBuilder();
        for (char c = first; c <= last; c++) {
            text.append("room ").append(c).append(" least 0;");
        }
        return text.toString();
    }

    /** "the thirteenth NAME of all BRIEFS' "rooms"", of those that were taken and this one. */
    private static void twelveNames() {
        BuildingJury x = Due.good(rooms('a', 'l'));
        Due.due("twelve", x.count(2), 12);
        Due.due("the twelfth", x.name(12, 0), 'l');
        Due.due("the thirteenth", x.name(13, 0), -1);
        Due.due("told again", Due.brief(x, rooms('a', 'l') + rooms('a', 'l')), 1);
        Due.due("another one", Due.brief(x, "room m least 0;"), -1);
        Due.due("its place", x.fault(), 5);
        Due.due("twelve", x.count(2), 12);
        Due.fault(rooms('a', 'm'), 12 * 15 + 5);
        x = new BuildingJury();
        Due.due("eleven and a fault", Due.brief(x, rooms('a', 'k') + "?"), -1);
        Due.due("none were taken", x.count(2), 0);
        Due.due("twelve others", Due.brief(x, rooms('m', 'x')), 0);
        Due.due("the first is m", x.name(1, 0), 'm');
        Due.due("the twelfth is x", x.name(12, 0), 'x');
        x = Due.good(rooms('a', 'k'));
        Due.due("one more and one too many", Due.brief(x, "room l least 0;room m least 0;"), -1);
        Due.due("its place", x.fault(), 20);
        Due.due("eleven still", x.count(2), 11);
        Due.due("the other one", Due.brief(x, "room m least 0;room a least 0;"), 1);
        Due.due("the twelfth is m", x.name(12, 0), 'm');
        Due.due("a rate by the number", Due.brief(x, "room m least 0;rate m 3;"), 2);
        Due.due("of the twelfth", x.law(0, 32), 3);
        Due.due("of the eleventh", x.law(0, 31), 100);
    }

    private static void number(String ahead, int most, String behind) {
        Due.good(ahead + most + behind);
        Due.good(ahead + "0" + most + behind);
        Due.fault(ahead + (most + 1) + behind, ahead.length());
        Due.fault(ahead + "999999" + behind, ahead.length());
    }

    private static void numbersOfEachKind() {
        number("wall ", 9999, ";");
        number("way ", 9999, ";");
        number("stair ", 9999, ";");
        number("room a least 1;rate a ", 9999, ";");
        number("cost most 1 span ", 50, ";");
        number("keep ", 10, ";");
        number("fee ", 100, " 1 1;");
        number("fee 1 ", 100, " 1;");
        number("fee 1 1 ", 100, ";");
        String[] sixDigits = {"room a least ", "room a least 1 light ", "room a least 1;near a a within ", "cost most ",
            "room a least 1;apart a a by ", "out if cells<", "out if cost>", "out if ways=", "close "};
        for (String ahead : sixDigits) {
            Due.good(ahead + "999999;");
            Due.good(ahead + "000000;");
            Due.good(ahead + "0;");
            Due.fault(ahead + "1000000;", ahead.length());
            Due.fault(ahead + "0000000;", ahead.length());
            Due.fault(ahead + "99999999999999999999;", ahead.length());
            Due.fault(ahead + "4294967297;", ahead.length());
            Due.fault(ahead + "-1;", ahead.length());
        }
        for (String ahead : new String[] {"wall ", "way ", "stair ", "room a least 1;rate a ", "cost most 1 span "}) {
            Due.good(ahead + "0;");
            Due.good(ahead + "000000;");
            Due.fault(ahead + "0000000;", ahead.length());
        }
        Due.fault("keep 000000;", 5);
        Due.good("keep 000001;");
        Due.good("fee 0 0 0;");
    }

    private static void zerosAndTens() {
        BuildingJury x = Due.good("room a least 0;rate a 0;wall 0;way 0;stair 0;cost most 0 span 0;close 0;keep 1;fee 0 0 0;");
        int[] zeros = {0, 0, 0, 0, 0, 1, 0, 1, 0, 0, 0, 9, 0};
        for (int what = 0; what < zeros.length; what++) {
            Due.due("least law " + what, x.law(0, what), zeros[what]);
        }
        Due.due("least rate", x.law(0, 21), 0);
        x = Due.good("room a least 0;rate a 9999;wall 9999;way 9999;stair 9999;cost most 0 span 50;close 999999;keep 10;"
            + "fee 100 100 100;vote pair;tie head;");
        int[] most = {9999, 9999, 9999, 50, 999999, 10, 2, 0, 100, 100, 100, 11, 0};
        for (int what = 0; what < most.length; what++) {
            Due.due("greatest law " + what, x.law(0, what), most[what]);
        }
        Due.due("greatest rate", x.law(0, 21), 9999);
    }

    private static void tenOpen() {
        for (int brackets = 0; brackets <= 11; brackets++) {
            for (int nots = 0; nots + brackets <= 11; nots++) {
                String ahead = "out if " + "(".repeat(brackets) + "not ".repeat(nots);
                String text = ahead + "ways=9" + ")".repeat(brackets) + ";";
                if (brackets + nots <= 10) {
                    Due.good(text);
                } else {
                    Due.fault(text, nots == 0 ? ahead.length() - 1 : ahead.length() - 4);
                }
                ahead = "out if " + "not ".repeat(nots) + "(".repeat(brackets);
                text = ahead + "ways=9" + ")".repeat(brackets) + ";";
                if (brackets + nots <= 10) {
                    Due.good(text);
                } else {
                    Due.fault(text, brackets == 0 ? ahead.length() - 4 : ahead.length() - 1);
                }
            }
        }
    }

    /** What has been closed is open no more. */
    private static void openOnesClosed() {
        String ten = "((((((((((ways=9))))))))))";
        Due.good("out if " + ten + " or " + ten + " and " + ten + ";out if " + ten + ";");
        Due.good("out if (((((((((not ways=9 and not ways=8 or not ways=7)))))))));");
        Due.good("out if not not not not not not not not not (ways=9) and not(ways=8);");
        Due.fault("out if " + ten + " or (" + ten + ");", 7 + 26 + 4 + 10);
        Due.fault("out if (((((((((not ways=9 and not not ways=8)))))))));", 35);
        Due.fault("out if ((((((((((ways=9))))))))) ;", 33);
        Due.fault("out if ((((((((((ways=9)))))))))));", 33);
        Due.due("nine nots", scheme("out if " + "not ".repeat(9) + "ways=0;").why(0), -1);
        Due.due("ten nots", scheme("out if " + "not ".repeat(10) + "ways=0;").why(0), 0);
    }

    private static BuildingJury scheme(String text) {
        BuildingJury x = Due.good(text);
        x.scheme(0);
        return x;
    }

    private static void fortyFirst() {
        Due.due("39", Due.good("way 1;".repeat(39)).law(0, 11), 39);
        Due.due("40", Due.good("way 1;".repeat(40)).law(0, 11), 40);
        Due.due("40 and blanks", Due.good("way 1;".repeat(40) + " \n").law(0, 11), 40);
        Due.fault("way 1;".repeat(41), 240);
        Due.fault("way 1;".repeat(40) + "\n way 1;", 242);
        Due.fault("way 1;".repeat(40) + " w", 241);
        Due.fault("way 1;".repeat(40) + "\u00ff", 240);
        Due.fault("way 1;".repeat(39) + "way 1", 239);
        Due.fault("way 1;".repeat(39) + "way;way 1;", 237);
        BuildingJury x = scheme("way 1;".repeat(39) + "out if cells=0;");
        Due.due("the fortieth throws out", x.why(0), 39);
    }

    private static void longestText() {
        String text = "out if ways=9" + " or ways=9".repeat(88) + "      ;";
        Due.due("900 bytes", text.length(), 900);
        Due.due("none holds", scheme(text).why(0), -1);
        text = "out if ways=9" + " or ways=9".repeat(87) + " or ways=0" + "      ;";
        Due.due("the last holds", scheme(text).why(0), 0);
        Due.fault(text.substring(0, 899), 899);
        Due.fault(text.substring(0, 893).concat("       "), 900);
        text = "out if ways=0" + " and ways=0".repeat(80) + "      ;";
        Due.due("all hold", scheme(text).why(0), 0);
        Due.due("the last doesn't", scheme(text.replace("0      ;", "1      ;")).why(0), -1);
        text = "way 12;".repeat(40) + " ".repeat(620);
        Due.due("900 bytes", Due.good(text).law(0, 1), 12);
        StringBuilder signs = new StringBuilder("out if ways=0");
        while (signs.length() < 880) {
            signs.append("or not ways=0");
        }
        Due.due("as many tokens as there may be", scheme(signs + ";").why(0), 0);
        Due.fault(";".repeat(900), 0);
        Due.fault("(".repeat(900), 0);
        Due.fault("a".repeat(900), 0);
        Due.fault("9".repeat(900), 0);
        Due.fault("wall " + "9".repeat(895), 5);
        Due.fault("room " + "a".repeat(895), 5);
        Due.fault("out if " + "(".repeat(893), 17);
        Due.fault("out if " + "not ".repeat(223), 47);
    }

    /** "the text's length, if more must come" */
    private static void moreMustCome() {
        String[] texts = {"room hall least 12 light 3;", "near hall hall within 4;", "apart hall hall by 5;", "rate hall 6;",
            "wall 7;", "cost most 8 span 9;", "out if not(cells<10 and dark=0)or late>1;", "keep 3;", "vote rank;",
            "tie number;", "fee 1 2 3;"};
        String ahead = "room hall least 1;";
        for (String text : texts) {
            boolean inside = false;
            for (int n = 1; n < text.length(); n++) {
                char last = text.charAt(n - 1);
                char next = text.charAt(n);
                inside = Character.isLetter(last) && Character.isLetter(next);
                if (!inside) {
                    Due.fault(ahead + text.substring(0, n), ahead.length() + n);
                    Due.fault(ahead + text.substring(0, n) + " \n", ahead.length() + n + 2);
                }
            }
            Due.due("statements of " + text, Due.good(ahead + text).law(0, 11), 2);
        }
    }

    private static void lastOneTold() {
        BuildingJury x = Due.good("wall 1;wall 2;way 1;way 3;stair 1;stair 4;cost most 9 span 1;cost most 9 span 5;cost most 8;"
            + "close 1;close 6;keep 1;keep 7;vote pair;vote rank;tie number;tie head;fee 1 1 1;fee 8 9 10;"
            + "room a least 1;rate a 1;rate a 11;");
        int[] told = {2, 3, 4, 5, 6, 7, 1, 0, 8, 9, 10, 22, 2};
        for (int what = 0; what < told.length; what++) {
            Due.due("the last told of " + what, x.law(0, what), told[what]);
        }
        Due.due("the last rate", x.law(0, 21), 11);
        x = Due.good("vote rank;vote pair;vote first;tie head;tie number;");
        Due.due("vote first", x.law(0, 6), 0);
        Due.due("tie number", x.law(0, 7), 1);
        Due.due("nothing told in a later text", Due.brief(x, ""), 1);
        Due.due("wall", x.law(0, 0), 10);
    }

    private static void bareAndBound() {
        BuildingJury x = new BuildingJury();
        int[] bare = {10, 50, 300, 10, 1000, 3, 0, 1, 20, 30, 50, 0, 0};
        for (int day : new int[] {0, 1, 999, 1000}) {
            Due.due("binds " + day, x.binds(day), -1);
        }
        for (int what = 0; what < bare.length; what++) {
            Due.due("bare " + what, x.law(1000, what), bare[what]);
        }
        for (int room = 1; room <= 12; room++) {
            Due.due("bare rate", x.law(0, 20 + room), 100);
        }
        x.day(1);
        Due.brief(x, "wall 1;");
        x.day(1000);
        Due.brief(x, "wall 2;");
        int[][] want = {{0, -1, 10}, {1, 0, 1}, {2, 0, 1}, {999, 0, 1}, {1000, 1, 2}};
        for (int[] w : want) {
            Due.due("binds " + w[0], x.binds(w[0]), w[1]);
            Due.due("wall of " + w[0], x.law(w[0], 0), w[2]);
        }
        for (int day : new int[] {MIN, -1, 1001, MAX}) {
            Due.due("no day " + day, x.binds(day), -1);
            Due.due("no day " + day, x.law(day, 0), -1);
        }
        x = new BuildingJury();
        Due.brief(x, "wall 3;");
        Due.due("from the first day on", x.binds(0), 0);
        Due.due("to the last", x.law(1000, 0), 3);
    }

    private static void oneRoomOrTwelve() {
        BuildingJury x = new BuildingJury();
        Due.due("no name", x.name(1, -1), -1);
        Due.due("no letter", x.name(1, 0), -1);
        Due.due("no names", x.count(2), 0);
        Due.due("a room that isn't named has a rate", x.law(0, 32), 100);
        Due.brief(x, rooms('a', 'a'));
        Due.due("one name", x.count(2), 1);
        Due.due("its length", x.name(1, -1), 1);
        Due.due("the second", x.name(2, -1), -1);
        for (int i : new int[] {MIN, -2, 1, 2, 8, MAX}) {
            Due.due("letter " + i, x.name(1, i), -1);
        }
        for (int room : new int[] {MIN, -1, 0, 13, 14, MAX}) {
            Due.due("name of " + room, x.name(room, -1), -1);
        }
    }
}
