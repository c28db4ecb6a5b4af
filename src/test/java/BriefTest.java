/** Promises 1 to 8: a new object, days, the tape, briefs, their faults, laws and names. */
public final class BriefTest {

    public static void main(String[] args) {
        newObject();
        days();
        feeding();
        taking();
        faults();
        numberBounds();
        wrongTurns();
        usedAgain();
        nameFaults();
        openOnes();
        fortyStatements();
        binding();
        laws();
        canBeMet();
        names();
        Due.end();
    }

    private static void newObject() {
        BuildingJury x = new BuildingJury();
        for (int what = 0; what <= 14; what++) {
            Due.due("new count " + what, x.count(what), 0);
        }
        Due.due("NONE", BuildingJury.NONE, -1);
        Due.due("new binds", x.binds(0), -1);
        Due.due("new cell", x.cell(0, 0, 0, 0), -1);
        Due.due("new voice", x.voice(1, 0), -1);
        Due.due("new fault", x.fault(), -1);
        Due.due("new winner", x.winner(), -1);
        Due.due("new most", x.most(0), -1);
    }

    private static void days() {
        BuildingJury x = new BuildingJury();
        Due.due("day 0", x.day(0), false);
        Due.due("day -1", x.day(-1), false);
        Due.due("day 1001", x.day(1001), false);
        Due.due("day max", x.day(Integer.MAX_VALUE), false);
        Due.due("day 3", x.day(3), true);
        Due.due("day 3 again", x.day(3), false);
        Due.due("day 2", x.day(2), false);
        Due.due("today", x.count(0), 3);
        Due.due("day 1000", x.day(1000), true);
        Due.due("today", x.count(0), 1000);
    }

    private static void feeding() {
        BuildingJury x = new BuildingJury();
        for (int i = 1; i <= 45; i++) {
            Due.due("feed " + i, x.feed(0, 0, 0, 0, 0), 20 * i);
        }
        Due.due("feed 46", x.feed(0, 0, 0, 0, 0), -1);
        Due.due("tape", x.count(13), 900);
        Due.due("zero bytes", x.brief(900), -1);
        Due.due("fault", x.fault(), 0);
        Due.due("tape", x.count(13), 0);
        x.feed(0x77616c6c, 0x20373b20, 0x20202020, 0x20202020, 0x202020ff);
        Due.due("highest first", x.brief(19), 0);
        Due.due("wall", x.law(0, 0), 7);
        x.feed(0x77616c6c, 0x20373b20, 0x20202020, 0x20202020, 0x202020ff);
        Due.due("a byte of 255", x.brief(20), -1);
        Due.due("its place", x.fault(), 19);
        x.feed(0x80000000, 0, 0, 0, 0);
        Due.due("a byte of 128", x.brief(1), -1);
        Due.due("its place", x.fault(), 0);
    }

    private static void taking() {
        BuildingJury x = new BuildingJury();
        Due.due("brief -1", x.brief(-1), -2);
        Due.due("brief 1 of none", x.brief(1), -2);
        Due.due("brief min", x.brief(Integer.MIN_VALUE), -2);
        Due.due("brief of nothing", x.brief(0), 0);
        Due.tape(x, "wall 7;way 3; junk");
        Due.due("too many", x.brief(21), -2);
        Due.due("tape stays", x.count(13), 20);
        Due.due("fault stays", x.fault(), -1);
        Due.due("the first bytes alone", x.brief(7), 1);
        Due.due("tape is empty", x.count(13), 0);
        Due.due("wall", x.law(0, 0), 7);
        Due.due("way", x.law(0, 1), 50);
        Due.due("fault", Due.brief(x, "wall x;"), -1);
        Due.due("its place", x.fault(), 5);
        Due.due("-2 leaves the fault", x.brief(1), -2);
        Due.due("its place", x.fault(), 5);
        for (int i = 2; i < 6; i++) {
            Due.due("brief " + i, Due.brief(x, "keep " + i + ";"), i);
            Due.due("no fault", x.fault(), -1);
        }
        Due.due("a seventh", Due.brief(x, "keep 9;"), -3);
        Due.due("tape stays", x.count(13), 20);
        Due.due("a seventh with a fault", x.brief(3), -3);
        Due.due("n beyond, six there", x.brief(21), -2);
        Due.due("fault stays", x.fault(), -1);
        Due.due("keep", x.law(0, 5), 5);
        Due.due("briefs", x.count(1), 6);
    }

    private static void faults() {
        Due.good("");
        Due.good("  \n \n");
        Due.good("room a least 4light 2;near a a within 0;apart a a by 9;rate a 1;wall 1;way 1;stair 1;"
                + "cost most 1 span 2;out if cells<1;close 1;keep 1;vote first;tie head;fee 1 2 3;");
        Due.good("vote rank;vote pair;tie number;out if(cells=1)and(ways>2)or not(late=1);");
        Due.fault("room", 4);
        Due.fault("room  ", 6);
        Due.fault("  Room", 2);
        Due.fault("roomhall least 1;", 0);
        Due.fault("room hall 4;", 10);
        Due.fault("room hall least;", 15);
        Due.fault("room hall least 4 light;", 23);
        Due.fault("room hall least 4 dark 2;", 18);
        Due.fault("room hall least 4", 17);
        Due.fault("room hall least 4 light 3 light 4;", 26);
        Due.fault("wall 3", 6);
        Due.fault("wall 3;;", 7);
        Due.fault("wall 3; ;", 8);
        Due.fault("wall 3;\t", 7);
        Due.fault("wall 3.;", 6);
        Due.fault("wall -3;", 5);
        Due.fault("cost 3;", 5);
        Due.fault("cost most 3 span;", 16);
        Due.fault("cost most 3 span", 16);
        Due.fault("out cells<3;", 4);
        Due.fault("out if;", 6);
        Due.fault("out if cells;", 12);
        Due.fault("out if cells<;", 13);
        Due.fault("out if cells<=3;", 13);
        Due.fault("out if cell<3;", 7);
        Due.fault("out if walls<3;", 7);
        Due.fault("out if cells<3 and;", 18);
        Due.fault("out if cells<3 or", 17);
        Due.fault("out if cells<3 not cost<3;", 15);
        Due.fault("out if (cells<3;", 15);
        Due.fault("out if cells<3);", 14);
        Due.fault("out if ();", 8);
        Due.fault("out if not;", 10);
        Due.fault("vote head;", 5);
        Due.fault("vote;", 4);
        Due.fault("tie first;", 4);
        Due.fault("fee 1 2;", 7);
        Due.fault("fee 1 2 3 4;", 10);
        Due.fault("keep one;", 5);
        Due.fault("hall 3;", 0);
        Due.fault("3", 0);
        Due.good("out if cost<1 or stairs>2 and rooms=3 or dark<1 and storeys>1;");
    }

    private static void numberBounds() {
        Due.good("wall 9999;way 9999;stair 9999;keep 10;fee 100 0 100;close 999999;cost most 999999 span 50;");
        Due.good("wall 000007;close 0;cost most 0 span 0;");
        Due.fault("wall 10000;", 5);
        Due.fault("way 10000;", 4);
        Due.fault("stair 10000;", 6);
        Due.fault("room a least 1;rate a 10000;", 22);
        Due.fault("keep 0;", 5);
        Due.fault("keep 11;", 5);
        Due.fault("fee 1 101 3;", 6);
        Due.fault("fee 1 1 101;", 8);
        Due.fault("fee 101 1 1;", 4);
        Due.fault("cost most 1 span 51;", 17);
        Due.fault("close 1000000;", 6);
        Due.fault("close 0000001;", 6);
        Due.fault("room a least 1000000;", 13);
        Due.good("room a least 999999 light 999999;");
    }

    /** A statement that begins where another must go on is a fault all the same. */
    private static void wrongTurns() {
        String room = "room a least 1;";
        String[] begun = {"room ", "room a ", "room a least ", "room a least 1 light ", "room a least 1 ", "room a least 1 light 1 ",
            "near ", "near a ", "near a a ", "near a a within ", "near a a within 1 ", "apart a a by ", "rate ", "rate a ",
            "rate a 1 ", "wall ", "wall 1 ", "cost ", "cost most ", "cost most 1 ", "cost most 1 span ", "cost most 1 span 1 ",
            "out ", "out if ", "out if cells ", "out if cells< ", "out if cells<1 ", "out if cells<1 and ", "out if not ",
            "out if (cells<1 ", "out if (cells<1) ", "close ", "keep ", "vote ", "vote first ", "tie ", "tie head ", "fee ",
            "fee 1 ", "fee 1 2 ", "fee 1 2 3 "};
        for (String text : begun) {
            Due.fault(room + text + "wall 3;", 15 + text.length());
            Due.fault(room + text, 15 + text.length());
        }
        Due.fault("tie cells;", 4);
        Due.fault("tie pair;", 4);
        Due.fault("vote and;", 5);
        Due.fault("out if and<1;", 7);
        Due.fault("out if span<1;", 7);
    }

    private static void usedAgain() {
        BuildingJury x = new BuildingJury();
        String longest = "cells<1 or ".repeat(70);
        for (int i = 0; i < 5; i++) {
            Due.due("a fault behind much", Due.brief(x, "wall 3;room a least 1;out if " + longest + "cells<1"), -1);
            Due.due("another one", Due.brief(x, "room a least 1;rate a 7;wall 3;out if " + longest), -1);
        }
        Due.due("a good one", Due.brief(x, "room b least 1;out if " + longest + "cells=0;"), 0);
        Due.due("nothing is left over", x.law(0, 0), 10);
        Due.due("nothing is left over", x.law(0, 21), 100);
        Due.due("nothing is left over", x.law(0, 11), 2);
        Due.due("nothing is left over", x.name(1, 0), 'b');
        Due.due("nothing is left over", x.name(2, 0), -1);
    }

    private static void nameFaults() {
        Due.good("room abcdefgh least 1;rate abcdefgh 3;");
        Due.fault("room abcdefghi least 1;", 5);
        Due.fault("room 4 least 1;", 5);
        String reserved = "room least light near within apart by rate wall way stair cost most span out if close keep "
                + "vote first rank pair tie head number fee or and not cells ways stairs rooms dark late storeys";
        for (String word : reserved.split(" ")) {
            Due.fault("room " + word + " least 1;", 5);
        }
        Due.fault("room a least 1;near a b within 2;", 22);
        Due.fault("room a least 1;near b a within 2;", 20);
        Due.fault("near a a within 2;room a least 1;", 5);
        Due.fault("room a least 1;apart a b by 2;", 23);
        Due.fault("room a least 1;rate b 2;", 20);
        Due.fault("room a least 1;near a a by 2;", 24);
        Due.fault("room a least 1;apart a a within 2;", 25);
        BuildingJury x = Due.good("room a least 1;room b least 1;room c least 1;room d least 1;room e least 1;room f least 1;");
        Due.due("told in another text alone", Due.brief(x, "room b least 1;near b a within 2;"), -1);
        Due.due("its place", x.fault(), 22);
        Due.due("six more and one", Due.brief(x, "room b least 2;room g least 1;room h least 1;room i least 1;room j least 1;"
                + "room k least 1;room l least 1;room m least 1;"), -1);
        Due.due("its place", x.fault(), 7 * 15 + 5);
        Due.due("names", x.count(2), 6);
        Due.due("six more", Due.brief(x, "room m least 1;room l least 1;room k least 1;room j least 1;room i least 1;room h least 1;"), 1);
        Due.due("names", x.count(2), 12);
        Due.due("a thirteenth", Due.brief(x, "room a least 1;room n least 1;"), -1);
        Due.due("its place", x.fault(), 20);
        Due.due("m is the seventh", x.name(7, 0), 'm');
    }

    private static void openOnes() {
        Due.good("out if ((((((((((cells<1))))))))));");
        Due.fault("out if (((((((((((cells<1)))))))))));", 17);
        Due.good("out if not not not not not not not not not not cells<1;");
        Due.fault("out if not not not not not not not not not not not cells<1;", 47);
        Due.good("out if not(not(not(not(not(cells<1)))));");
        Due.fault("out if not(not(not(not(not(not cells<1)))));", 27);
        Due.fault("out if not(not(not(not(not((cells<1))))));", 27);
        Due.good("out if not cells<1 and not cells<2 and not cells<3 and not cells<4 or not cells<5 and "
                + "not cells<6 and not cells<7 and not cells<8 and not cells<9 and not cells<8 and not cells<7;");
        Due.good("out if (cells<1)or(cells<1)or(cells<1)or(cells<1)or(cells<1)or(cells<1)or(cells<1)or(cells<1)or"
                + "(cells<1)or(cells<1)or(cells<1)or((cells<1));");
    }

    private static void fortyStatements() {
        StringBuilder forty = new StringBuilder();
        for (int i = 0; i < 40; i++) {
            forty.append("wall ").append(i % 10).append(';');
        }
        BuildingJury x = Due.good(forty + "  ");
        Due.due("statements", x.law(0, 11), 40);
        Due.due("the last wall", x.law(0, 0), 9);
        Due.fault(forty + " wall 3;", 281);
        Due.fault(forty + " ?", 281);
        Due.fault(forty + ";", 280);
    }

    private static void binding() {
        BuildingJury x = new BuildingJury();
        x.day(5);
        Due.due("first", Due.brief(x, "wall 1;"), 0);
        Due.due("second of the same day", Due.brief(x, "way 2;"), 1);
        x.day(9);
        Due.due("third", Due.brief(x, "stair 3;"), 2);
        Due.due("binds 4", x.binds(4), -1);
        Due.due("binds 5", x.binds(5), 1);
        Due.due("binds 8", x.binds(8), 1);
        Due.due("binds 9", x.binds(9), 2);
        Due.due("binds 1000", x.binds(1000), 2);
        Due.due("binds 1001", x.binds(1001), -1);
        Due.due("binds -1", x.binds(-1), -1);
        Due.due("bare wall", x.law(4, 0), 10);
        Due.due("a text stands alone", x.law(5, 0), 10);
        Due.due("way", x.law(5, 1), 2);
        Due.due("way of the third", x.law(9, 1), 50);
        Due.due("stair of the third", x.law(9, 2), 3);
    }

    private static void laws() {
        BuildingJury x = new BuildingJury();
        int[] bare = {10, 50, 300, 10, 1000, 3, 0, 1, 20, 30, 50, 0, 0};
        for (int what = 0; what < bare.length; what++) {
            Due.due("bare law " + what, x.law(7, what), bare[what]);
        }
        Due.due("bare rate", x.law(0, 21), 100);
        Due.due("bare rate 12", x.law(0, 32), 100);
        x = Due.good("room a least 1;room b least 2;rate b 7;rate b 9;wall 1;wall 2;way 3;stair 4;cost most 9999 span 5;"
                + "cost most 8888;close 6;keep 7;keep 8;vote first;vote pair;tie number;tie head;fee 1 2 3;fee 9 8 7;");
        int[] told = {2, 3, 4, 5, 6, 8, 2, 0, 9, 8, 7, 19, 0};
        for (int what = 0; what < told.length; what++) {
            Due.due("law " + what, x.law(0, what), told[what]);
        }
        Due.due("law 13", x.law(0, 13), -1);
        Due.due("law 20", x.law(0, 20), -1);
        Due.due("law 21", x.law(0, 21), 100);
        Due.due("law 22", x.law(0, 22), 9);
        Due.due("law 32", x.law(0, 32), 100);
        Due.due("law 33", x.law(0, 33), -1);
        Due.due("law -1", x.law(0, -1), -1);
        Due.due("law of day -1", x.law(-1, 0), -1);
        Due.due("law of day 1001", x.law(1001, 0), -1);
        Due.due("law of day 1000", x.law(1000, 0), 2);
        Due.due("vote rank", Due.good("vote rank;").law(0, 6), 1);
    }

    private static void can(String text, int want) {
        Due.due("can " + text, Due.good(text).law(0, 12), want);
    }

    private static void canBeMet() {
        can("room a least 160;", 0);
        can("room a least 161;", 1);
        can("room a least 80;room b least 80;room a least 3;", 0);
        can("room a least 3;room b least 80;room a least 81;", 1);
        can("room a least 10;room b least 10;rate a 7;cost most 1069;", 2);
        can("room a least 10;room b least 10;rate a 7;cost most 1070;", 0);
        can("cost most 1070;room a least 10;room b least 10;rate a 9;cost most 5000;rate a 7;", 0);
        can("cost most 5000;room a least 10;room b least 10;rate a 7;cost most 1069;cost most 4000;", 2);
        can("room a least 999999;room b least 999999;rate a 9999;rate b 9999;cost most 1;", 1);
        can("cost most 0;", 0);
        StringBuilder twelve = new StringBuilder();
        for (char c = 'a'; c < 'm'; c++) {
            twelve.append("room ").append(c).append(" least ").append(c == 'l' ? 51 : 10).append(';');
        }
        can(twelve.toString(), 1);
        can(twelve + "rate l 7;cost most 11357;", 1);
        can(twelve.toString().replace("51", "50") + "rate l 7;cost most 11349;", 2);
        can(twelve.toString().replace("51", "50") + "rate l 7;cost most 11350;", 0);
    }

    private static void names() {
        BuildingJury x = Due.good("room hall least 1;room abcdefgh least 1;room hall least 2;room z least 1;");
        Due.due("length", x.name(1, -1), 4);
        String hall = "hall";
        for (int i = 0; i < 4; i++) {
            Due.due("letter " + i, x.name(1, i), hall.charAt(i));
        }
        Due.due("letter 4", x.name(1, 4), -1);
        Due.due("letter -2", x.name(1, -2), -1);
        Due.due("eight", x.name(2, -1), 8);
        Due.due("first of eight", x.name(2, 0), 'a');
        Due.due("last of eight", x.name(2, 7), 'h');
        Due.due("beyond eight", x.name(2, 8), -1);
        Due.due("third", x.name(3, 0), 'z');
        Due.due("z's length", x.name(3, -1), 1);
        Due.due("none such", x.name(4, -1), -1);
        Due.due("room 0", x.name(0, -1), -1);
        Due.due("room 13", x.name(13, 0), -1);
        Due.due("names", x.count(2), 3);
        Due.due("not taken", Due.brief(x, "room q least 1;x"), -1);
        Due.due("names", x.count(2), 3);
        Due.due("taken", Due.brief(x, "room p least 1;room hall least 1;"), 1);
        Due.due("p is the fourth", x.name(4, 0), 'p');
    }
}
