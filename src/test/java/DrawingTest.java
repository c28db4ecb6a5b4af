/** Promises 9 to 20: sun, schemes, cells, rooms, steps, costs, what throws out, mends, likeness. */
public final class DrawingTest {

    public static void main(String[] args) {
        schemes();
        drawing();
        light();
        steps();
        cost();
        why();
        late();
        mend();
        mendNever();
        alike();
        Due.end();
    }

    private static boolean cell(BuildingJury x, int scheme, int storey, int column, int row, int what) {
        return x.draw(scheme, storey, column, row, column, row, what);
    }

    private static void schemes() {
        BuildingJury x = new BuildingJury();
        Due.due("author -1", x.scheme(-1), -1);
        Due.due("author 40", x.scheme(40), -1);
        Due.due("author 39", x.scheme(39), 0);
        Due.due("author 0", x.scheme(0), 1);
        for (int i = 2; i < 10; i++) {
            Due.due("the same author", x.scheme(0), i);
        }
        Due.due("an eleventh", x.scheme(1), -1);
        Due.due("schemes", x.count(3), 10);
        Due.due("hand 9", x.hand(9), true);
        Due.due("hand 9 again", x.hand(9), false);
        Due.due("hand 10", x.hand(10), false);
        Due.due("hand -1", x.hand(-1), false);
        Due.due("handed in", x.count(4), 1);
        Due.due("sealed", x.author(9), -1);
    }

    private static void drawing() {
        BuildingJury x = new BuildingJury();
        Due.due("no scheme", cell(x, 0, 0, 0, 0, 1), false);
        x.scheme(3);
        int[][] bad = {{-1, 0, 0, 0, 0, 0, 1}, {1, 0, 0, 0, 0, 0, 1}, {0, -1, 0, 0, 0, 0, 1}, {0, 2, 0, 0, 0, 0, 1},
            {0, 0, -1, 0, 0, 0, 1}, {0, 0, 0, -1, 0, 0, 1}, {0, 0, 0, 0, 10, 0, 1}, {0, 0, 0, 0, 0, 8, 1},
            {0, 0, 3, 0, 2, 0, 1}, {0, 0, 0, 3, 0, 2, 1}, {0, 0, 0, 0, 0, 0, -1}, {0, 0, 0, 0, 0, 0, 15},
            {0, 0, 10, 0, 10, 0, 1}, {0, 0, 0, 8, 0, 8, 1}, {0, 0, 0, 0, Integer.MAX_VALUE, 0, 1}};
        for (int[] b : bad) {
            Due.due("draw " + java.util.Arrays.toString(b), x.draw(b[0], b[1], b[2], b[3], b[4], b[5], b[6]), false);
        }
        Due.due("all of a storey", x.draw(0, 1, 0, 0, 9, 7, 12), true);
        Due.due("its cells", x.room(0, 12, 0), 80);
        Due.due("nothing", x.draw(0, 1, 2, 3, 5, 4, 0), true);
        Due.due("its cells", x.room(0, 12, 0), 72);
        Due.due("stair", cell(x, 0, 1, 9, 7, 14), true);
        Due.due("way", cell(x, 0, 1, 0, 7, 13), true);
        Due.due("a cell", x.cell(0, 1, 1, 3), 12);
        Due.due("a cell of nothing", x.cell(0, 1, 2, 3), 0);
        Due.due("a cell of nothing", x.cell(0, 1, 5, 4), 0);
        Due.due("a cell", x.cell(0, 1, 6, 4), 12);
        Due.due("a cell", x.cell(0, 1, 9, 7), 14);
        Due.due("a cell", x.cell(0, 1, 0, 7), 13);
        Due.due("the other storey", x.cell(0, 0, 1, 3), 0);
        int[][] none = {{-1, 0, 0, 0}, {1, 0, 0, 0}, {0, -1, 0, 0}, {0, 2, 0, 0}, {0, 0, -1, 0}, {0, 0, 10, 0}, {0, 0, 0, -1}, {0, 0, 0, 8}};
        for (int[] b : none) {
            Due.due("cell " + java.util.Arrays.toString(b), x.cell(b[0], b[1], b[2], b[3]), -1);
        }
        x.hand(0);
        Due.due("handed in", cell(x, 0, 0, 0, 0, 1), false);
        Due.due("not drawn", x.cell(0, 0, 0, 0), 0);
    }

    private static void light() {
        BuildingJury x = new BuildingJury();
        x.scheme(0);
        Due.due("side -1", x.sun(-1, 1), false);
        Due.due("side 4", x.sun(4, 1), false);
        Due.due("hours -1", x.sun(0, -1), false);
        Due.due("hours 13", x.sun(0, 13), false);
        x.draw(0, 0, 1, 1, 5, 5, 2);
        cell(x, 0, 0, 3, 3, 1);
        Due.due("dark", x.room(0, 1, 1), 0);
        int[][] beside = {{3, 2}, {4, 3}, {3, 4}, {2, 3}};
        int[] sun = {4, 6, 8, 6};
        for (int side = 0; side < 4; side++) {
            cell(x, 0, 0, beside[side][0], beside[side][1], 0);
            Due.due("light of side " + side, x.room(0, 1, 1), sun[side]);
            cell(x, 0, 0, beside[side][0], beside[side][1], 13);
        }
        Due.due("dark between ways", x.room(0, 1, 1), 0);
        cell(x, 0, 0, 3, 2, 0);
        cell(x, 0, 0, 2, 3, 0);
        Due.due("the greatest", x.room(0, 1, 1), 6);
        Due.due("sun", x.sun(0, 12), true);
        Due.due("the greatest", x.room(0, 1, 1), 12);
        Due.due("sun", x.sun(0, 0), true);
        Due.due("sun", x.sun(3, 0), true);
        Due.due("no sun", x.room(0, 1, 1), 0);
        cell(x, 0, 1, 9, 7, 1);
        Due.due("any storey, the edge", x.room(0, 1, 1), 8);
        x.draw(0, 1, 0, 0, 9, 7, 3);
        Due.due("edges", x.room(0, 3, 1), 8);
        Due.due("cells", x.room(0, 3, 0), 80);
        Due.due("cells of none", x.room(0, 4, 0), 0);
        Due.due("light of none", x.room(0, 4, 1), 0);
        Due.due("room 0", x.room(0, 0, 0), -1);
        Due.due("room 13", x.room(0, 13, 0), -1);
        Due.due("what 2", x.room(0, 1, 2), -1);
        Due.due("what -1", x.room(0, 1, -1), -1);
        Due.due("scheme 1", x.room(1, 1, 0), -1);
    }

    private static void steps() {
        BuildingJury x = new BuildingJury();
        x.scheme(0);
        cell(x, 0, 0, 0, 0, 1);
        cell(x, 0, 0, 1, 0, 2);
        Due.due("unlike ones side by side", x.steps(0, 1, 2), -1);
        cell(x, 0, 0, 0, 1, 13);
        cell(x, 0, 0, 1, 1, 13);
        Due.due("by the way", x.steps(0, 1, 2), 3);
        Due.due("and back", x.steps(0, 2, 1), 3);
        cell(x, 0, 0, 1, 1, 3);
        Due.due("not from room to room", x.steps(0, 1, 2), -1);
        Due.due("to a room", x.steps(0, 1, 3), 2);
        cell(x, 0, 0, 1, 1, 14);
        Due.due("by a stair of this storey", x.steps(0, 1, 2), 3);
        cell(x, 0, 1, 1, 2, 4);
        cell(x, 0, 1, 1, 1, 13);
        Due.due("a way is no stair", x.steps(0, 1, 4), -1);
        cell(x, 0, 1, 1, 1, 14);
        Due.due("up", x.steps(0, 1, 4), 4);
        Due.due("down", x.steps(0, 4, 2), 3);
        x.draw(0, 0, 4, 4, 9, 4, 5);
        cell(x, 0, 0, 3, 4, 13);
        cell(x, 0, 0, 2, 4, 6);
        cell(x, 0, 0, 9, 5, 13);
        cell(x, 0, 0, 8, 5, 7);
        Due.due("through a room", x.steps(0, 6, 7), 9);
        Due.due("the nearest cells", x.steps(0, 5, 7), 2);
        cell(x, 0, 0, 3, 0, 8);
        cell(x, 0, 0, 2, 0, 0);
        Due.due("not over nothing", x.steps(0, 2, 8), -1);
        cell(x, 0, 0, 9, 0, 9);
        cell(x, 0, 0, 0, 1, 13);
        Due.due("not over the edge", x.steps(0, 9, 1), -1);
        Due.due("none", x.steps(0, 1, 12), -1);
        Due.due("itself", x.steps(0, 1, 1), -1);
        Due.due("room 0", x.steps(0, 0, 1), -1);
        Due.due("room 13", x.steps(0, 1, 13), -1);
        Due.due("a stair is no room", x.steps(0, 1, 14), -1);
        Due.due("no scheme", x.steps(1, 1, 2), -1);
    }

    private static void cost() {
        BuildingJury x = new BuildingJury();
        x.scheme(0);
        Due.due("nothing", x.cost(0, 0, 0), 0);
        cell(x, 0, 0, 9, 7, 1);
        Due.due("one cell, bare", x.cost(0, 0, 0), 140);
        cell(x, 0, 0, 8, 7, 1);
        Due.due("two alike", x.cost(0, 0, 0), 260);
        cell(x, 0, 0, 8, 7, 13);
        Due.due("two unlike", x.cost(0, 0, 0), 220);
        cell(x, 0, 1, 9, 7, 14);
        Due.due("a stair above", x.cost(0, 0, 0), 560);
        x.day(2);
        Due.brief(x, "room a least 1;rate a 9;wall 1;way 2;stair 3;cost most 5 span 7;");
        Due.due("by a brief", x.cost(0, 2, 0), 25);
        Due.due("its span from", x.cost(0, 2, 1), 24);
        Due.due("its span to", x.cost(0, 2, 2), 26);
        Due.due("of a day before", x.cost(0, 1, 0), 560);
        Due.due("its span from", x.cost(0, 1, 1), 504);
        Due.due("its span to", x.cost(0, 1, 2), 616);
        Due.due("of a day to come", x.cost(0, 1000, 0), 25);
        Due.due("day 1001", x.cost(0, 1001, 0), -1);
        Due.due("day -1", x.cost(0, -1, 0), -1);
        Due.due("what 3", x.cost(0, 0, 3), -1);
        Due.due("what -1", x.cost(0, 0, -1), -1);
        Due.due("scheme 1", x.cost(1, 0, 0), -1);
        Due.brief(x, "room a least 1;rate a 9999;wall 9999;cost most 5 span 50;");
        for (int row = 0; row < 8; row++) {
            for (int column = 0; column < 10; column++) {
                cell(x, 0, 0, column, row, (row + column) % 2 + 1);
                cell(x, 0, 1, column, row, 1);
            }
        }
        int walls = 11 * 8 + 10 * 9 + 36;
        int dear = 120 * 9999 + 40 * 100 + walls * 9999;
        Due.due("the dearest", x.cost(0, 2, 0), dear);
        Due.due("its span", x.cost(0, 2, 2), dear + dear / 2);
    }

    private static BuildingJury drawn(String text) {
        BuildingJury x = Due.good(text);
        x.scheme(0);
        x.draw(0, 0, 0, 0, 1, 1, 1);
        cell(x, 0, 0, 2, 0, 13);
        cell(x, 0, 0, 3, 0, 2);
        return x;
    }

    private static void why(String text, int want) {
        Due.due("why of " + text, drawn("room a least 0;room b least 0;" + text).why(0), want);
    }

    private static void why() {
        why("", -1);
        why("room a least 4;", -1);
        why("room a least 5;", 2);
        why("room a least 4 light 8;", -1);
        why("room a least 4 light 9;", 2);
        why("room c least 0 light 1;", 2);
        why("room c least 0 light 0;", -1);
        why("near a b within 2;", -1);
        why("near a b within 1;", 2);
        why("room c least 0;near a c within 9;", 3);
        why("near a a within 0;", -1);
        why("room c least 0;near c c within 9;", 3);
        why("apart a b by 2;", -1);
        why("apart a b by 3;", 2);
        why("room c least 0;apart a c by 9;", -1);
        why("apart a a by 0;", -1);
        why("apart a a by 1;", 2);
        why("room c least 0;apart c c by 1;", -1);
        why("cost most 690;", -1);
        why("cost most 689;", 2);
        why("cost most 9999;cost most 3;", 3);
        why("wall 0;cost most 549;", 3);
        why("keep 3;cost most 1;room a least 9;", 3);
        why("out if cells=6;", 2);
        why("out if cells<6 or cells>6;", -1);
        why("out if cost=690;", 2);
        why("out if ways=1;", 2);
        why("out if ways>1;", -1);
        why("out if stairs=0;", 2);
        why("out if rooms=2;", 2);
        why("out if dark=0;", 2);
        why("out if late=0;", 2);
        why("out if storeys=1;", 2);
        why("out if storeys=1 and cells<6;", -1);
        why("out if cells<6 and storeys=1 or storeys=1;", 2);
        why("out if storeys=1 or storeys=1 and cells<6;", 2);
        why("out if (storeys=1 or storeys=1) and cells<6;", -1);
        why("out if not storeys=1 or cells<6;", -1);
        why("out if not(storeys=2 and cells=6);", 2);
        why("out if not not storeys=1;", 2);
        why("out if not cells<6 and not cells>6;", 2);
        why("out if cells>5 and (cells<3 or (ways=1 and (stairs=1 or not rooms=3)));", 2);
        lastRoom();
        BuildingJury x = drawn("out if dark>0;");
        x.sun(0, 0);
        x.sun(1, 0);
        x.sun(2, 0);
        Due.due("the left is open to one alone", x.why(0), 0);
        Due.due("no scheme", x.why(1), -2);
        Due.due("no scheme", x.why(-1), -2);
        x.day(3);
        Due.brief(x, "wall 4;out if cells=6;");
        Due.due("by the brief of today", x.why(0), 1);
        x.hand(0);
        x.day(4);
        Due.brief(x, "room a least 7;");
        Due.due("by the brief of its day", x.why(0), 1);
        x.scheme(1);
        x.hand(1);
        Due.due("by the next brief", x.why(1), 0);
        Due.brief(x, "wall 4;");
        Due.due("the last one of its day", x.why(1), -1);
        Due.due("the first one's day is past", x.why(0), 1);
    }

    private static void lastRoom() {
        BuildingJury x = Due.good("out if rooms>2 and dark=0;out if rooms>2;");
        x.scheme(0);
        x.draw(0, 0, 0, 0, 1, 1, 1);
        cell(x, 0, 0, 2, 0, 13);
        cell(x, 0, 0, 3, 0, 2);
        Due.due("two rooms", x.why(0), -1);
        cell(x, 0, 1, 4, 4, 12);
        Due.due("the twelfth", x.why(0), 0);
        x.draw(0, 1, 3, 3, 5, 5, 13);
        cell(x, 0, 1, 4, 4, 12);
        Due.due("the twelfth is dark", x.why(0), 1);
        Due.due("its cost", x.cost(0, 0, 0), 550 + 140 + 8 * 50 + 100 + 160);
    }

    private static void late() {
        BuildingJury x = drawn("wall 3;close 2;out if late=1;");
        x.scheme(1);
        x.scheme(2);
        x.day(2);
        Due.due("on the day", x.why(0), -1);
        x.hand(0);
        x.day(3);
        Due.due("handed in by then", x.why(0), -1);
        Due.due("not yet handed in", x.why(1), 2);
        x.hand(1);
        Due.due("handed in behind it", x.why(1), 2);
        Due.due("no change mends it", x.mend(1, 0), 2);
        Due.brief(x, "close 5;out if late=1;");
        Due.due("another close", x.why(2), -1);
        x.day(6);
        Due.due("behind that", x.why(2), 1);
    }

    private static void mendIs(BuildingJury x, int storey, int column, int row, int what) {
        int[] want = {1, storey, column, row, what};
        for (int i = 0; i < want.length; i++) {
            Due.due("mend " + i, x.mend(0, i), want[i]);
        }
        Due.due("mend 5", x.mend(0, 5), -1);
        Due.due("mend -1", x.mend(0, -1), -1);
    }

    private static void mendNever() {
        BuildingJury x = drawn("room a least 6;");
        int[] want = {2, -1, -1, -1, -1, -1};
        for (int i = 0; i < want.length; i++) {
            Due.due("not to be mended " + i, x.mend(0, i), want[i]);
        }
        x = drawn("room a least 4;");
        want[0] = 0;
        for (int i = 0; i < want.length; i++) {
            Due.due("nothing to mend " + i, x.mend(0, i), want[i]);
        }
        Due.due("no scheme", x.mend(1, 0), -1);
        Due.due("no scheme", x.mend(-1, 0), -1);
    }

    private static void mend() {
        mendIs(drawn("room a least 5;"), 0, 2, 0, 1);
        mendIs(drawn("room a least 5;room b least 1;near a b within 2;"), 0, 4, 0, 1);
        BuildingJury x = drawn("room a least 5;room b least 1;near a b within 2;out if cells>7;room a least 1;");
        mendIs(x, 0, 4, 0, 1);
        Due.due("nothing is drawn", x.cell(0, 0, 4, 0), 0);
        Due.due("nothing is drawn", x.room(0, 1, 0), 4);
        Due.due("nothing is drawn", x.cost(0, 0, 0), 690);
        mendIs(drawn("out if storeys<2;"), 1, 0, 0, 1);
        mendIs(drawn("out if cells>5;"), 0, 0, 0, 0);
        mendIs(drawn("out if ways>0;"), 0, 2, 0, 0);
        mendIs(drawn("out if ways>0;out if cells<6;"), 0, 2, 0, 1);
        mendIs(drawn("out if stairs=0 or rooms<2;"), 0, 0, 0, 14);
        mendIs(drawn("out if stairs=0;out if cells=6;"), 0, 4, 0, 14);
        x = drawn("out if stairs=0;out if cells=6;");
        x.hand(0);
        mendIs(x, 0, 4, 0, 14);
        x = drawn("room a least 5;out if late=1;close 0;");
        mendIs(x, 0, 2, 0, 1);
        x.day(1);
        Due.due("late today", x.mend(0, 0), 2);
        x = drawn("room a least 1 light 10;");
        Due.due("too dark", x.mend(0, 0), 2);
        x.sun(0, 10);
        Due.due("the sun shines", x.mend(0, 0), 0);
        x.sun(0, 9);
        Due.due("no more", x.mend(0, 0), 2);
        Due.brief(x, "wall 1;");
        Due.due("another brief", x.mend(0, 0), 0);
        x = drawn("room a least 6;");
        Due.due("two cells", x.mend(0, 0), 2);
        cell(x, 0, 0, 0, 2, 1);
        mendIs(x, 0, 2, 0, 1);
        x.scheme(1);
        Due.due("of another one", x.mend(1, 0), 2);
        mendIs(x, 0, 2, 0, 1);
        x = Due.good("room a least 0;");
        x.scheme(0);
        x.draw(0, 1, 9, 7, 9, 7, 2);
        Due.brief(x, "room a least 0;room b least 0;out if cells=1 and storeys=1 and rooms=1;out if cells=2;");
        mendIs(x, 1, 9, 7, 0);
    }

    private static void alike() {
        BuildingJury x = new BuildingJury();
        x.scheme(0);
        Due.due("most of one", x.most(0), -1);
        x.scheme(1);
        Due.due("most of two", x.most(2), 1);
        x.scheme(2);
        cell(x, 0, 0, 0, 0, 1);
        cell(x, 0, 0, 1, 0, 2);
        cell(x, 0, 0, 0, 1, 13);
        cell(x, 0, 1, 4, 4, 5);
        cell(x, 1, 1, 4, 4, 5);
        Due.due("storey 0 alone", x.alike(0, 1), 0);
        int[][] turned = {{0, 0, 1, 0, 0, 1}, {9, 0, 8, 0, 9, 1}, {0, 7, 1, 7, 0, 6}, {9, 7, 8, 7, 9, 6}};
        for (int[] t : turned) {
            x.draw(1, 0, 0, 0, 9, 7, 0);
            cell(x, 1, 0, t[0], t[1], 1);
            cell(x, 1, 0, t[2], t[3], 2);
            Due.due("two of three", x.alike(0, 1), 2);
            cell(x, 1, 0, t[4], t[5], 13);
            Due.due("all three", x.alike(1, 0), 3);
            cell(x, 1, 0, t[0], t[1], 4);
            Due.due("another thing", x.alike(0, 1), 2);
        }
        Due.due("looked at", x.count(10), 1);
        Due.due("itself", x.alike(1, 1), -1);
        Due.due("none such", x.alike(0, 3), -1);
        Due.due("none such", x.alike(-1, 0), -1);
        Due.due("what 3", x.most(3), -1);
        Due.due("what -1", x.most(-1), -1);
        Due.due("looked at", x.count(10), 1);
        Due.due("most", x.most(0), 2);
        Due.due("the first", x.most(1), 0);
        Due.due("the other", x.most(2), 1);
        Due.due("looked at", x.count(10), 3);
        x.draw(2, 0, 9, 7, 9, 7, 4);
        cell(x, 2, 0, 8, 7, 2);
        cell(x, 2, 0, 9, 6, 13);
        Due.due("most", x.most(0), 3);
        Due.due("the first", x.most(1), 1);
        Due.due("the other", x.most(2), 2);
        x.draw(0, 0, 0, 0, 9, 7, 0);
        x.draw(1, 0, 0, 0, 9, 7, 0);
        Due.due("none alike", x.most(0), 0);
        Due.due("the first", x.most(1), 0);
        Due.due("the other", x.most(2), 1);
        for (int i = 3; i < 10; i++) {
            x.scheme(i);
        }
        x.draw(9, 0, 3, 3, 3, 3, 2);
        x.draw(8, 0, 6, 4, 6, 4, 2);
        x.draw(7, 0, 6, 3, 6, 3, 2);
        Due.due("looked at", x.count(10), 3);
        Due.due("of several the least first", x.most(1), 7);
        Due.due("then the least other", x.most(2), 8);
        Due.due("looked at", x.count(10), 45);
    }
}
