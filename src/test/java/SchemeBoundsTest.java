/**
 * The sentences of promises 9 to 20, and of the terms they rest on, that name a boundary: the last
 * value within it and the first beyond it, nothing and one of a thing, and all of it.
 */
public final class SchemeBoundsTest {
    private static final int MIN = Integer.MIN_VALUE;
    private static final int MAX = Integer.MAX_VALUE;
    private static final String AB = "room a least 0;room b least 0;";

    public static void main(String[] args) {
        hoursOfSides();
        tenSchemes();
        thingsFromNothingToStair();
        rectangles();
        drawnTillHandedIn();
        cellsOfRooms();
        edgesAndSides();
        lightOnAnyStorey();
        oneStep();
        farthestSteps();
        stepsOfAllCells();
        wallsOnce();
        spansCut();
        costByDays();
        leastAndLight();
        nearAndApart();
        costMost();
        wordsOfOut();
        lateByOneDay();
        bindingByHand();
        mendFirst();
        mendLast();
        alikeFromNoneToAll();
        mostOfPairs();
        Due.end();
    }

    private static BuildingJury scheme(String text) {
        BuildingJury x = Due.good(text);
        x.scheme(0);
        return x;
    }

    private static boolean cell(BuildingJury x, int scheme, int storey, int column, int row, int what) {
        return x.draw(scheme, storey, column, row, column, row, what);
    }

    private static void hoursOfSides() {
        BuildingJury x = scheme("");
        cell(x, 0, 0, 5, 5, 1);
        for (int hours = 0; hours <= 12; hours++) {
            for (int side = 0; side < 4; side++) {
                Due.due("sun " + hours, x.sun(side, hours), true);
            }
            Due.due("light", x.room(0, 1, 1), hours);
        }
        for (int side : new int[] {MIN, -1, 4, MAX}) {
            Due.due("side " + side, x.sun(side, 0), false);
        }
        for (int hours : new int[] {MIN, -1, 13, MAX}) {
            Due.due("hours " + hours, x.sun(0, hours), false);
        }
        Due.due("light stays", x.room(0, 1, 1), 12);
    }

    private static void tenSchemes() {
        BuildingJury x = new BuildingJury();
        for (int author : new int[] {MIN, -1, 40, 41, MAX}) {
            Due.due("author " + author, x.scheme(author), -1);
        }
        Due.due("none", x.count(3), 0);
        Due.due("cell of none", x.cell(0, 0, 0, 0), -1);
        for (int k = 0; k < 10; k++) {
            Due.due("scheme " + k, x.scheme(k % 2 == 0 ? 39 : 0), k);
            Due.due("schemes", x.count(3), k + 1);
            Due.due("its cell", x.cell(k, 1, 9, 7), 0);
            Due.due("the next one's", x.cell(k + 1, 1, 9, 7), -1);
        }
        Due.due("an eleventh", x.scheme(0), -1);
        Due.due("an eleventh of none", x.scheme(40), -1);
        Due.due("schemes", x.count(3), 10);
        x.day(1000);
        for (int k = 0; k < 10; k++) {
            Due.due("handed in", x.count(4), k);
            Due.due("hand " + k, x.hand(k), true);
            Due.due("hand again", x.hand(k), false);
        }
        Due.due("handed in", x.count(4), 10);
        for (int k : new int[] {MIN, -1, 10, MAX}) {
            Due.due("hand " + k, x.hand(k), false);
        }
        Due.due("an eleventh still", x.scheme(0), -1);
    }

    private static void thingsFromNothingToStair() {
        BuildingJury x = scheme("");
        for (int what = 0; what <= 14; what++) {
            Due.due("thing " + what, cell(x, 0, what % 2, what % 10, what % 8, what), true);
            Due.due("cell", x.cell(0, what % 2, what % 10, what % 8), what);
            Due.due("its room", x.room(0, what, 0), what == 0 || what > 12 ? -1 : 1);
        }
        for (int what : new int[] {MIN, -1, 15, 16, MAX}) {
            Due.due("thing " + what, cell(x, 0, 0, 0, 2, what), false);
            Due.due("cell stays", x.cell(0, 0, 0, 2), 10);
        }
        Due.due("nothing in place of it", cell(x, 0, 0, 0, 2, 0), true);
        Due.due("cell", x.cell(0, 0, 0, 2), 0);
        Due.due("no cell of it", x.room(0, 10, 0), 0);
    }

    private static void rectangles() {
        int[][] all = {{0, 0, 9, 7}, {0, 0, 0, 0}, {9, 7, 9, 7}, {9, 0, 9, 0}, {0, 7, 0, 7}, {3, 2, 6, 2}, {3, 2, 3, 5}, {4, 3, 7, 6}};
        for (int[] r : all) {
            BuildingJury x = scheme("");
            int storey = r[0] % 2;
            Due.due("draw", x.draw(0, storey, r[0], r[1], r[2], r[3], 3), true);
            int cells = 0;
            for (int row = 0; row < 8; row++) {
                for (int column = 0; column < 10; column++) {
                    boolean in = column >= r[0] && column <= r[2] && row >= r[1] && row <= r[3];
                    cells += in ? 1 : 0;
                    Due.due("cell " + column + ", " + row, x.cell(0, storey, column, row), in ? 3 : 0);
                    Due.due("other storey", x.cell(0, 1 - storey, column, row), 0);
                }
            }
            Due.due("cells", x.room(0, 3, 0), cells);
        }
        BuildingJury x = scheme("");
        int[][] bad = {{1, 0, 0, 0}, {0, 1, 0, 0}, {9, 7, 8, 7}, {9, 7, 9, 6}, {-1, 0, 9, 7}, {0, -1, 9, 7}, {0, 0, 10, 7}, {0, 0, 9, 8}};
        for (int[] r : bad) {
            Due.due("draw", x.draw(0, 0, r[0], r[1], r[2], r[3], 3), false);
            Due.due("nothing is drawn", x.room(0, 3, 0), 0);
        }
    }

    private static void drawnTillHandedIn() {
        BuildingJury x = scheme("");
        x.scheme(1);
        Due.due("draw", cell(x, 0, 0, 0, 0, 1), true);
        Due.due("hand", x.hand(0), true);
        Due.due("draw", cell(x, 0, 0, 0, 0, 2), false);
        Due.due("draw", cell(x, 0, 0, 1, 0, 1), false);
        Due.due("another one", cell(x, 1, 0, 1, 0, 1), true);
        x.day(1);
        Due.due("a day later", cell(x, 0, 0, 1, 0, 1), false);
        Due.due("the other a day later", cell(x, 1, 0, 1, 0, 2), true);
        Due.due("as handed in", x.cell(0, 0, 0, 0), 1);
        Due.due("as handed in", x.cell(0, 0, 1, 0), 0);
        Due.due("as drawn", x.cell(1, 0, 1, 0), 2);
    }

    private static void cellsOfRooms() {
        BuildingJury x = scheme("");
        for (int room = 1; room <= 12; room++) {
            Due.due("no cells", x.room(0, room, 0), 0);
            Due.due("no light", x.room(0, room, 1), 0);
            x.draw(0, 0, 0, 0, 9, 7, room);
            Due.due("half of all", x.room(0, room, 0), 80);
            x.draw(0, 1, 0, 0, 9, 7, room);
            Due.due("all", x.room(0, room, 0), 160);
            Due.due("light", x.room(0, room, 1), 8);
        }
        Due.due("none left", x.room(0, 11, 0), 0);
    }

    /** "nothing beside it (or the edge)": up, right, down, left. */
    private static void edgesAndSides() {
        int[][] corner = {{0, 0, 9, 2}, {9, 7, 3, 5}, {9, 0, 9, 3}, {0, 7, 5, 2}};
        int[] sun = {9, 3, 5, 2};
        for (int[] c : corner) {
            BuildingJury x = scheme("");
            for (int side = 0; side < 4; side++) {
                x.sun(side, sun[side]);
            }
            x.draw(0, 1, 0, 0, 9, 7, 14);
            cell(x, 0, 1, c[0], c[1], 1);
            Due.due("corner " + c[0] + ", " + c[1], x.room(0, 1, 1), Math.max(c[2], c[3]));
        }
        int[][] edge = {{4, 0, 9}, {9, 4, 3}, {4, 7, 5}, {0, 4, 2}};
        for (int[] e : edge) {
            BuildingJury x = scheme("");
            for (int side = 0; side < 4; side++) {
                x.sun(side, sun[side]);
            }
            x.draw(0, 0, 0, 0, 9, 7, 2);
            cell(x, 0, 0, e[0], e[1], 1);
            Due.due("edge " + e[0] + ", " + e[1], x.room(0, 1, 1), e[2]);
            cell(x, 0, 0, e[0], e[1], 2);
            cell(x, 0, 0, 4, 4, 1);
            Due.due("in the middle", x.room(0, 1, 1), 0);
            x.draw(0, 0, 3, 3, 5, 5, 1);
            Due.due("beside its own", x.room(0, 1, 1), 0);
            cell(x, 0, 1, 4, 4, 1);
            Due.due("alone above", x.room(0, 1, 1), 9);
        }
    }

    private static void lightOnAnyStorey() {
        BuildingJury x = scheme("out if dark=0;out if dark=1;");
        x.draw(0, 0, 0, 0, 9, 7, 13);
        Due.due("no room is dark", x.why(0), 0);
        cell(x, 0, 0, 5, 5, 1);
        Due.due("one is", x.why(0), 1);
        cell(x, 0, 1, 5, 5, 12);
        Due.due("one is, and one isn't", x.why(0), 1);
        cell(x, 0, 0, 7, 5, 11);
        Due.due("two are", x.why(0), -1);
        cell(x, 0, 1, 7, 7, 1);
        Due.due("one is lit above", x.why(0), 1);
        Due.due("light", x.room(0, 1, 1), 8);
        for (int side = 0; side < 4; side++) {
            x.sun(side, 0);
        }
        Due.due("three are without sun", x.why(0), -1);
    }

    private static void oneStep() {
        for (int between : new int[] {13, 14}) {
            BuildingJury x = scheme("");
            cell(x, 0, 0, 4, 4, 1);
            int[][] beside = {{4, 3, 4, 2}, {5, 4, 6, 4}, {4, 5, 4, 6}, {3, 4, 2, 4}};
            for (int[] b : beside) {
                cell(x, 0, 0, b[2], b[3], 2);
                Due.due("nothing between", x.steps(0, 1, 2), -1);
                cell(x, 0, 0, b[0], b[1], between);
                Due.due("two steps", x.steps(0, 1, 2), 2);
                Due.due("and back", x.steps(0, 2, 1), 2);
                cell(x, 0, 0, b[0], b[1], 3);
                Due.due("a room between", x.steps(0, 1, 2), -1);
                cell(x, 0, 0, b[0], b[1], 0);
                cell(x, 0, 0, b[2], b[3], 0);
            }
            cell(x, 0, 0, 5, 5, between);
            cell(x, 0, 0, 6, 6, 2);
            Due.due("not by a corner", x.steps(0, 1, 2), -1);
        }
        BuildingJury x = scheme("");
        cell(x, 0, 0, 9, 1, 1);
        cell(x, 0, 0, 0, 2, 13);
        cell(x, 0, 0, 1, 2, 2);
        Due.due("not over the edge", x.steps(0, 1, 2), -1);
        cell(x, 0, 1, 9, 2, 14);
        cell(x, 0, 0, 9, 2, 14);
        cell(x, 0, 1, 9, 1, 3);
        Due.due("by two stairs", x.steps(0, 1, 3), 3);
        cell(x, 0, 1, 9, 2, 13);
        Due.due("a stair below a way", x.steps(0, 1, 3), -1);
        cell(x, 0, 1, 9, 2, 14);
        cell(x, 0, 0, 9, 2, 13);
        Due.due("a way below a stair", x.steps(0, 1, 3), -1);
        cell(x, 0, 0, 9, 2, 14);
        cell(x, 0, 0, 8, 2, 4);
        cell(x, 0, 1, 8, 2, 5);
        Due.due("beside the stairs", x.steps(0, 4, 5), 3);
        Due.due("a room that has no cells", x.steps(0, 1, 12), -1);
        Due.due("nor that one", x.steps(0, 12, 1), -1);
    }

    /** A way to and fro over both storeys: 43 cells each, from room 1 to room 2. */
    private static BuildingJury longWay(String text) {
        BuildingJury x = scheme(AB + text);
        for (int storey = 0; storey < 2; storey++) {
            for (int row = 0; row < 8; row += 2) {
                x.draw(0, storey, 0, row, 9, row, 13);
                if (row < 6) {
                    cell(x, 0, storey, row % 4 == 0 ? 9 : 0, row + 1, 13);
                }
            }
            cell(x, 0, storey, 0, 6, 14);
        }
        cell(x, 0, 0, 0, 0, 1);
        cell(x, 0, 1, 0, 0, 2);
        return x;
    }

    private static void farthestSteps() {
        BuildingJury x = longWay("near a b within 85;apart a b by 85;near a b within 84;");
        Due.due("to and fro", x.steps(0, 1, 2), 85);
        Due.due("and back", x.steps(0, 2, 1), 85);
        Due.due("more than 84", x.why(0), 4);
        x = longWay("apart b a by 85;near b a within 999999;apart b a by 86;");
        Due.due("fewer than 86", x.why(0), 4);
        x = longWay("apart b a by 999999;");
        Due.due("fewer than so many", x.why(0), 2);
        x = longWay("near b a within 0;");
        Due.due("more than 0", x.why(0), 2);
        cell(x, 0, 0, 5, 2, 0);
        Due.due("cut in two", x.steps(0, 1, 2), -1);
    }

    private static void stepsOfAllCells() {
        BuildingJury x = scheme("");
        x.draw(0, 0, 0, 0, 9, 7, 1);
        x.draw(0, 1, 0, 0, 9, 7, 1);
        Due.due("one room alone", x.steps(0, 1, 2), -1);
        cell(x, 0, 1, 9, 7, 2);
        Due.due("side by side", x.steps(0, 1, 2), -1);
        Due.due("side by side", x.steps(0, 2, 1), -1);
        cell(x, 0, 1, 8, 7, 14);
        Due.due("by the nearest", x.steps(0, 1, 2), 2);
        x.draw(0, 0, 0, 0, 9, 7, 14);
        x.draw(0, 1, 0, 0, 9, 7, 14);
        cell(x, 0, 0, 0, 0, 1);
        cell(x, 0, 1, 9, 7, 2);
        Due.due("over all stairs", x.steps(0, 1, 2), 17);
        x.draw(0, 1, 0, 0, 9, 7, 3);
        cell(x, 0, 1, 9, 7, 2);
        Due.due("under a room", x.steps(0, 1, 2), -1);
        cell(x, 0, 1, 0, 0, 14);
        cell(x, 0, 0, 0, 0, 14);
        cell(x, 0, 1, 9, 6, 14);
        cell(x, 0, 0, 5, 0, 1);
        Due.due("through a room above or under it", x.steps(0, 1, 2), 4 + 6 + 1 + 1);
    }

    /** "a side between two such CELLS once" */
    private static void wallsOnce() {
        BuildingJury x = scheme(AB + "rate a 0;rate b 0;wall 1;way 0;stair 0;cost most 1 span 0;");
        Due.due("nothing", x.cost(0, 0, 0), 0);
        int[][] told = {{3, 3, 1, 4}, {4, 3, 1, 6}, {4, 3, 2, 7}, {4, 3, 13, 7}, {4, 3, 14, 7}, {4, 4, 14, 9}, {4, 4, 0, 7}, {4, 3, 0, 4},
            {0, 0, 1, 8}, {9, 7, 2, 12}, {9, 0, 13, 16}, {0, 7, 14, 20}, {1, 0, 1, 22}, {0, 1, 1, 24}, {1, 1, 1, 24}, {1, 1, 2, 26}};
        for (int[] t : told) {
            cell(x, 0, 0, t[0], t[1], t[2]);
            Due.due("walls with " + t[2] + " at " + t[0] + ", " + t[1], x.cost(0, 0, 0), t[3]);
        }
        x.draw(0, 0, 0, 0, 9, 7, 13);
        Due.due("the edges", x.cost(0, 0, 0), 36);
        x.draw(0, 1, 0, 0, 9, 7, 1);
        Due.due("none between storeys", x.cost(0, 0, 0), 72);
        for (int row = 0; row < 8; row++) {
            for (int column = row % 2; column < 10; column += 2) {
                cell(x, 0, 0, column, row, 14);
            }
        }
        Due.due("all sides", x.cost(0, 0, 0), 36 + 11 * 8 + 10 * 9);
    }

    private static void spansCut() {
        BuildingJury x = scheme("room a least 0;rate a 9;wall 0;cost most 1 span 11;");
        int[][] want = {{0, 0}, {9, 0}, {18, 1}, {27, 2}, {36, 3}, {45, 4}, {54, 5}, {63, 6}, {72, 7}, {81, 8}, {90, 9}};
        for (int cells = 0; cells <= 10; cells++) {
            if (cells > 0) {
                cell(x, 0, 0, cells - 1, 4, 1);
            }
            int[] w = want[cells];
            Due.due("cost of " + cells, x.cost(0, 0, 0), w[0]);
            Due.due("its span from", x.cost(0, 0, 1), w[0] - w[1]);
            Due.due("its span to", x.cost(0, 0, 2), w[0] + w[1]);
        }
        Due.brief(x, "room a least 0;rate a 9;wall 0;cost most 1 span 0;");
        Due.due("no span", x.cost(0, 0, 1), 90);
        Due.due("no span", x.cost(0, 0, 2), 90);
        Due.brief(x, "room a least 0;rate a 11;wall 0;cost most 1 span 50;");
        Due.due("half", x.cost(0, 0, 1), 55);
        Due.due("half more", x.cost(0, 0, 2), 165);
        cell(x, 0, 0, 9, 4, 0);
        Due.due("half, cut", x.cost(0, 0, 1), 99 - 49);
        Due.due("half more, cut", x.cost(0, 0, 2), 99 + 49);
    }

    private static void costByDays() {
        BuildingJury x = new BuildingJury();
        x.scheme(0);
        cell(x, 0, 0, 0, 0, 13);
        Due.due("bare", x.cost(0, 0, 0), 90);
        Due.due("bare to come", x.cost(0, 1000, 0), 90);
        x.day(1000);
        Due.brief(x, "wall 0;way 7;");
        Due.due("bare till then", x.cost(0, 999, 0), 90);
        Due.due("from then on", x.cost(0, 1000, 0), 7);
        for (int day : new int[] {MIN, -1, 1001, MAX}) {
            Due.due("day " + day, x.cost(0, day, 0), -1);
        }
        for (int what : new int[] {MIN, -1, 3, MAX}) {
            Due.due("what " + what, x.cost(0, 0, what), -1);
        }
    }

    private static void why(String text, int want) {
        BuildingJury x = scheme(text);
        x.draw(0, 0, 0, 0, 1, 0, 1);
        cell(x, 0, 0, 2, 0, 13);
        cell(x, 0, 0, 3, 0, 2);
        Due.due("why of " + text, x.why(0), want);
    }

    private static void leastAndLight() {
        why("room a least 2;", -1);
        why("room a least 3;", 0);
        why("room a least 0;room b least 1;", -1);
        why("room a least 0;room b least 2;", 1);
        why(AB + "room c least 0;", -1);
        why(AB + "room c least 1;", 2);
        why("room a least 999999;", 0);
        why("room a least 2 light 8;", -1);
        why("room a least 2 light 9;", 0);
        why("room a least 2 light 999999;", 0);
        why(AB + "room c least 0 light 0;", -1);
        why(AB + "room c least 0 light 1;", 2);
        BuildingJury x = scheme("room a least 160;");
        x.draw(0, 0, 0, 0, 9, 7, 1);
        x.draw(0, 1, 0, 0, 9, 7, 1);
        Due.due("all cells", x.why(0), -1);
        cell(x, 0, 1, 9, 7, 0);
        Due.due("but one", x.why(0), 0);
    }

    private static void nearAndApart() {
        why(AB + "near a b within 2;apart a b by 2;", -1);
        why(AB + "near a b within 1;", 2);
        why(AB + "apart a b by 3;", 2);
        why(AB + "near b a within 2;apart b a by 2;", -1);
        why(AB + "near a b within 999999;apart a b by 0;", -1);
        why(AB + "near a a within 0;apart a a by 0;", -1);
        why(AB + "apart a a by 1;", 2);
        why(AB + "room c least 0;apart c c by 999999;apart a c by 999999;", -1);
        why(AB + "room c least 0;near c c within 999999;", 3);
        why(AB + "room c least 0;near a c within 999999;", 3);
        why(AB + "room c least 0;near c a within 999999;", 3);
    }

    private static void costMost() {
        String rates = AB + "rate a 3;rate b 5;way 7;wall 1;";
        int cost = 2 * 3 + 5 + 7 + 12;
        why(rates + "cost most " + cost + ";", -1);
        why(rates + "cost most " + (cost - 1) + ";", 6);
        why(rates + "cost most " + cost + " span 50;", -1);
        why("cost most 0;", 0);
        why("wall 0;way 0;cost most 300;", -1);
        why("wall 0;way 0;cost most 299;", 2);
        why("cost most 299;wall 0;way 0;", 0);
        why("cost most 300;wall 0;way 0;", -1);
        BuildingJury x = scheme("cost most 0;");
        Due.due("nothing costs nothing", x.why(0), -1);
    }

    private static void word(String word, int measured) {
        why("out if " + word + "=" + measured + ";", 0);
        why("out if " + word + "=" + (measured + 1) + ";", -1);
        why("out if " + word + "<" + (measured + 1) + ";", 0);
        why("out if " + word + "<" + measured + ";", -1);
        why("out if " + word + ">" + measured + ";", -1);
        if (measured > 0) {
            why("out if " + word + ">" + (measured - 1) + ";", 0);
        }
        why("out if not " + word + "=" + measured + ";", -1);
        why("out if not " + word + ">" + measured + ";", 0);
        why("out if " + word + ">999999;", -1);
        why("out if " + word + "<999999;", 0);
    }

    private static void wordsOfOut() {
        word("cells", 4);
        word("cost", 300 + 50 + 12 * 10);
        word("ways", 1);
        word("stairs", 0);
        word("rooms", 2);
        word("dark", 0);
        word("late", 0);
        word("storeys", 1);
        BuildingJury x = scheme("out if cells>0 or cost>0 or ways>0 or stairs>0 or rooms>0 or dark>0 or late>0 or storeys>0;");
        Due.due("nothing is drawn", x.why(0), -1);
        x = scheme("out if cells=160 and stairs=160 and storeys=2 and rooms=0;out if stairs=159;");
        x.draw(0, 0, 0, 0, 9, 7, 14);
        x.draw(0, 1, 0, 0, 9, 7, 14);
        Due.due("all is drawn", x.why(0), 0);
        cell(x, 0, 0, 0, 0, 13);
        Due.due("but one", x.why(0), 1);
        x = scheme("out if rooms=12 and cells=12;out if rooms=11;");
        for (int room = 1; room <= 12; room++) {
            cell(x, 0, room % 2, room % 10, room / 10, room);
        }
        Due.due("all rooms", x.why(0), 0);
        cell(x, 0, 0, 2, 0, 12);
        Due.due("but one", x.why(0), 1);
        cell(x, 0, 1, 1, 1, 12);
        Due.due("but two", x.why(0), -1);
    }

    private static void lateByOneDay() {
        for (int close : new int[] {0, 1, 999, 1000}) {
            BuildingJury x = scheme("close " + close + ";out if late=1;");
            x.scheme(1);
            if (close > 0) {
                x.day(close);
            }
            Due.due("on the day of closing", x.why(0), -1);
            x.hand(0);
            if (close < 1000) {
                x.day(close + 1);
                Due.due("handed in that day", x.why(0), -1);
                Due.due("not handed in yet", x.why(1), 1);
                x.hand(1);
                Due.due("handed in behind it", x.why(1), 1);
            }
        }
        BuildingJury x = scheme("out if late=1;");
        x.day(1000);
        Due.due("none told: never", x.why(0), -1);
        x = scheme("out if late=1;close 999999;");
        x.day(1000);
        Due.due("never", x.why(0), -1);
    }

    private static void bindingByHand() {
        BuildingJury x = new BuildingJury();
        for (int k = 0; k < 3; k++) {
            x.scheme(k);
        }
        x.hand(0);
        Due.due("bare", x.why(0), -1);
        x.day(1);
        Due.brief(x, "wall 1;out if cells=0;");
        Due.due("bare on its day", x.why(0), -1);
        Due.due("today", x.why(1), 1);
        x.hand(1);
        x.day(2);
        Due.brief(x, "out if cells=0;");
        Due.due("the day it was handed in", x.why(1), 1);
        Due.due("today", x.why(2), 0);
        Due.brief(x, "");
        Due.due("the last one of today", x.why(2), -1);
        x.hand(2);
        Due.brief(x, "wall 1;wall 1;out if cells=0;");
        Due.due("the last one of its day", x.why(2), 2);
        Due.due("still bare", x.why(0), -1);
        for (int k : new int[] {MIN, -1, 3, 10, MAX}) {
            Due.due("none such", x.why(k), -2);
        }
    }

    private static void mendIs(String what, BuildingJury x, int... want) {
        for (int i = 0; i < 5; i++) {
            Due.due(what + ", mend " + i, x.mend(0, i), i < want.length ? want[i] : -1);
        }
        for (int i : new int[] {MIN, -1, 5, MAX}) {
            Due.due(what + ", mend " + i, x.mend(0, i), -1);
        }
    }

    /** "the first by STOREYS, y, x, then by what it is (0 to 14)" */
    private static void mendFirst() {
        mendIs("nothing throws it out", scheme(""), 0);
        mendIs("the first of all", scheme("out if cells=0;"), 1, 0, 0, 0, 1);
        BuildingJury x = scheme("out if cells=1;");
        cell(x, 0, 0, 0, 0, 14);
        mendIs("nothing in its place", x, 1, 0, 0, 0, 0);
        x = scheme("out if stairs=1 or rooms>0;");
        cell(x, 0, 0, 0, 0, 14);
        mendIs("nothing ahead of a way", x, 1, 0, 0, 0, 0);
        x = scheme("out if stairs=1 or rooms>0 or cells=0;");
        cell(x, 0, 0, 0, 0, 14);
        mendIs("a way ahead of another place", x, 1, 0, 0, 0, 13);
        x = scheme("out if stairs=1 or rooms>0 or ways>0 or cells=0;");
        cell(x, 0, 0, 0, 0, 14);
        mendIs("a second stair", x, 1, 0, 1, 0, 14);
        x.draw(0, 0, 1, 0, 9, 0, 14);
        x.draw(0, 0, 0, 1, 9, 1, 14);
        cell(x, 0, 0, 9, 0, 0);
        mendIs("many stairs", x, 0);
        x = scheme("out if cells<2 or cells>2 or rooms<2;");
        x.draw(0, 0, 9, 0, 9, 1, 3);
        mendIs("x behind y", x, 1, 0, 9, 0, 1);
        x = scheme("out if storeys=1;out if cells>1;");
        cell(x, 0, 1, 0, 0, 2);
        mendIs("to nothing on the second storey", x, 1, 1, 0, 0, 0);
        x = scheme("out if storeys=1 or ways=0;");
        cell(x, 0, 1, 5, 5, 2);
        mendIs("the first storey", x, 1, 0, 0, 0, 13);
    }

    private static void mendLast() {
        BuildingJury x = scheme("out if stairs<160;");
        x.draw(0, 0, 0, 0, 9, 7, 14);
        x.draw(0, 1, 0, 0, 9, 7, 14);
        Due.due("nothing throws it out", x.mend(0, 0), 0);
        cell(x, 0, 1, 9, 7, 13);
        mendIs("the last of all", x, 1, 1, 9, 7, 14);
        cell(x, 0, 1, 9, 7, 0);
        mendIs("the last of all", x, 1, 1, 9, 7, 14);
        Due.due("nothing is drawn", x.cell(0, 1, 9, 7), 0);
        cell(x, 0, 0, 9, 7, 13);
        mendIs("two are too many", x, 2);
        cell(x, 0, 1, 9, 7, 14);
        mendIs("the last of the first storey", x, 1, 0, 9, 7, 14);
        cell(x, 0, 0, 9, 7, 14);
        cell(x, 0, 1, 0, 0, 1);
        mendIs("the first of the second storey", x, 1, 1, 0, 0, 14);
        x.hand(0);
        mendIs("handed in", x, 1, 1, 0, 0, 14);
        Due.due("and not drawn", x.cell(0, 1, 0, 0), 1);
        Due.due("nor by him", cell(x, 0, 1, 0, 0, 14), false);
        x.day(1);
        Due.brief(x, "");
        mendIs("by the brief of its day", x, 1, 1, 0, 0, 14);
        for (int k : new int[] {MIN, -1, 1, MAX}) {
            Due.due("none such", x.mend(k, 0), -1);
        }
        x = longWay("near a b within 83;near a b within 85;");
        mendIs("a shorter way", x, 1, 0, 2, 0, 1);
        x = longWay("near a b within 1;");
        mendIs("no nearer than two steps", x, 2);
        x = longWay("apart a b by 85;apart a b by 86;");
        mendIs("no room b, or cut in two", x, 1, 0, 0, 0, 0);
    }

    private static void alikeFromNoneToAll() {
        BuildingJury x = scheme("");
        x.scheme(1);
        Due.due("nothing is not alike", x.alike(0, 1), 0);
        cell(x, 0, 0, 2, 2, 14);
        Due.due("a stair and nothing", x.alike(0, 1), 0);
        cell(x, 1, 0, 2, 2, 13);
        Due.due("a stair and a way", x.alike(0, 1), 0);
        int[][] turned = {{2, 2}, {7, 2}, {2, 5}, {7, 5}};
        for (int[] t : turned) {
            x.draw(1, 0, 0, 0, 9, 7, 0);
            cell(x, 1, 0, t[0], t[1], 14);
            Due.due("one stair", x.alike(0, 1), 1);
            Due.due("the other way round", x.alike(1, 0), 1);
        }
        x.draw(1, 0, 0, 0, 9, 7, 0);
        cell(x, 1, 0, 5, 2, 14);
        Due.due("not by a quarter", x.alike(0, 1), 0);
        x.draw(0, 0, 0, 0, 9, 7, 12);
        x.draw(1, 0, 0, 0, 9, 7, 12);
        Due.due("all", x.alike(0, 1), 80);
        x.draw(0, 1, 0, 0, 9, 7, 12);
        x.draw(1, 1, 0, 0, 9, 7, 12);
        Due.due("of storey 0 alone", x.alike(0, 1), 80);
        cell(x, 1, 0, 9, 7, 11);
        Due.due("but one", x.alike(0, 1), 79);
        Due.due("one pair", x.count(10), 1);
        for (int k : new int[] {MIN, -1, 2, 10, MAX}) {
            Due.due("none such", x.alike(0, k), -1);
            Due.due("none such", x.alike(k, 0), -1);
            Due.due("none such", x.alike(k, k), -1);
        }
        Due.due("itself", x.alike(0, 0), -1);
        Due.due("one pair", x.count(10), 1);
    }

    private static void mostOfPairs() {
        BuildingJury x = new BuildingJury();
        for (int schemes = 0; schemes < 2; schemes++) {
            for (int what : new int[] {MIN, -1, 0, 1, 2, 3, MAX}) {
                Due.due("most of fewer than two", x.most(what), -1);
            }
            x.scheme(schemes);
        }
        Due.due("none looked at", x.count(10), 0);
        Due.due("of two that are bare", x.most(0), 0);
        Due.due("the first", x.most(1), 0);
        Due.due("the other", x.most(2), 1);
        Due.due("one pair", x.count(10), 1);
        for (int what : new int[] {MIN, -1, 3, MAX}) {
            Due.due("most " + what, x.most(what), -1);
        }
        for (int k = 2; k < 10; k++) {
            x.scheme(k);
            Due.due("a new one's pair", x.alike(k, 0), 0);
            Due.due("pairs", x.count(10), k);
        }
        Due.due("the last pair of all", x.alike(9, 8), 0);
        Due.due("pairs", x.count(10), 10);
        cell(x, 9, 0, 0, 0, 1);
        cell(x, 8, 0, 0, 7, 1);
        Due.due("of ten", x.most(0), 1);
        Due.due("all pairs", x.count(10), 45);
        Due.due("the first", x.most(1), 8);
        Due.due("the other", x.most(2), 9);
        cell(x, 3, 0, 9, 0, 1);
        Due.due("the least first", x.most(1), 3);
        Due.due("then the least other", x.most(2), 8);
        cell(x, 9, 0, 1, 0, 2);
        cell(x, 3, 0, 8, 0, 2);
        Due.due("the most", x.most(0), 2);
        Due.due("the first", x.most(1), 3);
        Due.due("the other", x.most(2), 9);
        Due.due("all pairs", x.count(10), 45);
    }
}
