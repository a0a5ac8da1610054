/** Promises 1 to 15: the grid. */
final class GridTest {
    private static final Check CHECK = new Check("GridTest");
    private static final Class<IllegalArgumentException> ARGUMENT = IllegalArgumentException.class;
    private static final Class<IndexOutOfBoundsException> INDEX = IndexOutOfBoundsException.class;

    private GridTest() {
    }

    public static void main(String[] arguments) {
        newObject();
        resize();
        resizeOutOfRange();
        setPattern();
        setPatternUnknown();
        setLight();
        setLightKeepsPresses();
        pressPlus();
        pressOthers();
        pressAtEdges();
        lights();
        recordBeginsAnew();
        recordCountsAllPresses();
        reach();
        wrongCells();
        CHECK.end();
    }

    private static void newObject() {
        GlowwormGrid grid = new GlowwormGrid();
        CHECK.same("1: state", Look.at(grid),
                "3x3+ lit .../.../... goals .../.../... presses 000/000/000 worms  steps 0");
    }

    private static void resize() {
        GlowwormGrid grid = new GlowwormGrid();
        for (int rows = 1; rows <= 5; rows++) {
            for (int columns = 1; columns <= 5; columns++) {
                CHECK.same("2: cells", grid.resize(rows, columns), rows * columns);
                CHECK.same("6: rowCount", grid.rowCount(), rows);
                CHECK.same("7: columnCount", grid.columnCount(), columns);
                grid.press(rows - 1, columns - 1);
                grid.toggleGoal(0, 0);
            }
        }
        grid = new GlowwormGrid();
        grid.setPattern('x');
        grid.setLight(0, 0, true);
        grid.press(1, 1);
        grid.toggleGoal(2, 2);
        grid.addWorm(0, 1, 'e');
        grid.step();
        CHECK.same("2: same size", grid.resize(3, 3), 9);
        CHECK.same("2: all dark, no worms, steps and pattern kept", Look.at(grid),
                "3x3x lit .../.../... goals .../.../... presses 000/000/000 worms  steps 1");
        CHECK.same("2: record's lights", Look.lightsByPresses(grid), ".../.../...");
    }

    private static void resizeOutOfRange() {
        int[] wrong = {0, 6, -1, 7, Integer.MIN_VALUE, Integer.MAX_VALUE};
        for (int number : wrong) {
            GlowwormGrid grid = Make.lit('+', "*..", "..*", "...");
            CHECK.refused("2: rows " + number, ARGUMENT, grid, () -> grid.resize(number, 3));
            CHECK.refused("2: columns " + number, ARGUMENT, grid, () -> grid.resize(3, number));
        }
    }

    private static void setPattern() {
        GlowwormGrid grid = new GlowwormGrid();
        CHECK.same("8: at first", grid.pattern(), '+');
        CHECK.same("3: to x", grid.setPattern('x'), '+');
        CHECK.same("8: x", grid.pattern(), 'x');
        CHECK.same("3: to o", grid.setPattern('o'), 'x');
        CHECK.same("8: o", grid.pattern(), 'o');
        CHECK.same("3: to s", grid.setPattern('s'), 'o');
        CHECK.same("8: s", grid.pattern(), 's');
        CHECK.same("3: to s again", grid.setPattern('s'), 's');
        CHECK.same("3: to +", grid.setPattern('+'), 's');
        grid.resize(2, 3);
        grid.setLight(0, 0, true);
        grid.toggleGoal(1, 2);
        grid.addWorm(1, 1, 'w');
        grid.press(0, 2);
        grid.setPattern('o');
        CHECK.same("3: lights, goals and worms kept, no presses", Look.at(grid),
                "2x3o lit ***/..* goals .../..* presses 000/000 worms 11w steps 0");
        CHECK.same("3: record's lights", Look.lightsByPresses(grid), "***/..*");
    }

    private static void setPatternUnknown() {
        char[] wrong = {'n', 'X', '*', ' ', 0, '0', (char) 255, (char) (256 + '+'), (char) 65535};
        for (char sign : wrong) {
            GlowwormGrid grid = new GlowwormGrid();
            grid.press(1, 1);
            CHECK.refused("3: pattern " + (int) sign, ARGUMENT, grid, () -> grid.setPattern(sign));
        }
    }

    private static void setLight() {
        GlowwormGrid grid = Make.grid(2, 3, '+');
        CHECK.no("4: dark before", grid.setLight(1, 2, true));
        CHECK.same("4: lit then", Look.lights(grid), ".../..*");
        CHECK.yes("4: lit before", grid.setLight(1, 2, true));
        CHECK.same("4: still lit", Look.lights(grid), ".../..*");
        CHECK.yes("4: lit before, to dark", grid.setLight(1, 2, false));
        CHECK.same("4: dark then", Look.lights(grid), ".../...");
        CHECK.same("10: as if it had never been lit", Look.lightsByPresses(grid), ".../...");
        CHECK.no("4: dark before, to dark", grid.setLight(1, 2, false));
        CHECK.same("10: still dark", Look.lightsByPresses(grid), ".../...");
        CHECK.same("4: no presses", Look.presses(grid), "000/000");
    }

    private static void setLightKeepsPresses() {
        GlowwormGrid grid = new GlowwormGrid();
        grid.press(1, 1);
        grid.setLight(1, 1, false);
        grid.setLight(0, 0, true);
        CHECK.same("4: lights", Look.lights(grid), "**./*.*/.*.");
        CHECK.same("10: after setLight", Look.lightsByPresses(grid), "**./*.*/.*.");
        CHECK.same("4: presses kept", Look.presses(grid), "000/010/000");
        grid.press(0, 0);
        grid.press(1, 1);
        CHECK.same("10: after more presses", Look.lightsByPresses(grid), ".*./**./...");
        CHECK.same("9: after more presses", Look.lights(grid), ".*./**./...");
    }

    private static void pressPlus() {
        GlowwormGrid grid = new GlowwormGrid();
        CHECK.same("5: middle", grid.press(1, 1), 5);
        CHECK.same("5: lights", Look.lights(grid), ".*./***/.*.");
        CHECK.same("5: corner", grid.press(0, 0), 4);
        CHECK.same("5: lights", Look.lights(grid), "*../.**/.*.");
        CHECK.same("5: presses", Look.presses(grid), "100/010/000");
        CHECK.same("5: again", grid.press(0, 0), 5);
        CHECK.same("5: twice is as before", Look.lights(grid), ".*./***/.*.");
        CHECK.same("14: twice counted", Look.presses(grid), "200/010/000");
    }

    private static void pressOthers() {
        GlowwormGrid grid = Make.grid(3, 3, 'x');
        CHECK.same("5: x", grid.press(1, 1), 5);
        CHECK.same("5: x lights", Look.lights(grid), "*.*/.*./*.*");
        grid = Make.grid(3, 3, 'o');
        CHECK.same("5: o", grid.press(1, 1), 9);
        CHECK.same("5: o lights", Look.lights(grid), "***/***/***");
        grid = Make.grid(3, 3, 's');
        CHECK.same("5: s", grid.press(1, 1), 1);
        CHECK.same("5: s lights", Look.lights(grid), ".../.*./...");
    }

    private static void pressAtEdges() {
        pressed("5: + top right", '+', 0, 4, "...**/....*/...../...../.....");
        pressed("5: + row 1 left", '+', 1, 0, "*..../**.../*..../...../.....");
        pressed("5: + bottom right", '+', 4, 4, "...../...../...../....*/...**");
        pressed("5: x top left", 'x', 0, 0, "*..../.*.../...../...../.....");
        pressed("5: x right", 'x', 2, 4, "...../...*./....*/...*./.....");
        pressed("5: x bottom left", 'x', 4, 0, "...../...../...../.*.../*....");
        pressed("5: o bottom", 'o', 4, 2, "...../...../...../.***./.***.");
        pressed("5: o left", 'o', 2, 0, "...../**.../**.../**.../.....");
        pressed("5: o top right", 'o', 0, 4, "...**/...**/...../...../.....");
        pressed("5: s bottom right", 's', 4, 4, "...../...../...../...../....*");
    }

    private static void pressed(String what, char pattern, int row, int column, String due) {
        GlowwormGrid grid = Make.grid(5, 5, pattern);
        grid.press(row, column);
        CHECK.same(what, Look.lights(grid), due);
        CHECK.same(what + ", by presses", Look.lightsByPresses(grid), due);
    }

    private static void lights() {
        GlowwormGrid grid = Make.lit('+', "**..*", ".*.*.", "....*");
        CHECK.same("9: lights", Look.lights(grid), "**..*/.*.*./....*");
        CHECK.same("11: all", grid.litCount(), 6);
        int[] rows = {3, 2, 1};
        for (int row = 0; row < 3; row++) {
            CHECK.same("12: row " + row, grid.litInRow(row), rows[row]);
        }
        int[] columns = {1, 2, 0, 1, 2};
        for (int column = 0; column < 5; column++) {
            CHECK.same("13: column " + column, grid.litInColumn(column), columns[column]);
        }
        GlowwormGrid full = Make.lit('s', "*****", "*****", "*****", "*****", "*****");
        CHECK.same("11: full", full.litCount(), 25);
        CHECK.same("12: full", full.litInRow(4), 5);
        CHECK.same("13: full", full.litInColumn(4), 5);
    }

    private static void recordBeginsAnew() {
        GlowwormGrid grid = new GlowwormGrid();
        grid.press(0, 0);
        grid.press(2, 2);
        grid.setPattern('+');
        CHECK.same("14: same pattern, no presses", Look.presses(grid), "000/000/000");
        CHECK.same("10: same pattern, same lights", Look.lightsByPresses(grid), "**./*.*/.**");
        grid.press(2, 2);
        CHECK.same("14: counted from then", Look.presses(grid), "000/000/001");
        CHECK.same("10: toggled from then", Look.lightsByPresses(grid), "**./*../...");
        grid.setPattern('s');
        grid.press(2, 2);
        CHECK.same("10: with the new pattern", Look.lightsByPresses(grid), "**./*../..*");
    }

    private static void recordCountsAllPresses() {
        GlowwormGrid grid = Make.lit('+', "*..", "...", "...");
        grid.chase();
        CHECK.same("14: chase is recorded", Look.presses(grid), "000/100/110");
        CHECK.same("10: after chase", Look.lightsByPresses(grid), Look.lights(grid));
        String solution = Look.solution(grid);
        grid.setPattern('+');
        grid.solve();
        CHECK.same("14: solve is recorded", Look.presses(grid).replace('0', '.').replace('1', '*'), solution);
        CHECK.same("10: after solve", Look.lightsByPresses(grid), ".../.../...");
        grid.setPattern('+');
        grid.addWorm(0, 0, 'e');
        grid.step();
        CHECK.same("14: step is recorded", Look.presses(grid), "010/000/000");
        CHECK.same("10: after step", Look.lightsByPresses(grid), "***/.*./...");
        grid = new GlowwormGrid();
        Make.execute(grid, "press 0 0;press 0 0;light 2 2;press 2 2");
        CHECK.same("14: execute is recorded", Look.presses(grid), "200/000/001");
        CHECK.same("10: after execute", Look.lightsByPresses(grid), ".../..*/.*.");
    }

    private static void reach() {
        CHECK.same("15: +", Look.reaches(Make.grid(3, 4, '+')), "3443/4554/3443");
        CHECK.same("15: x", Look.reaches(Make.grid(3, 4, 'x')), "2332/3553/2332");
        CHECK.same("15: o", Look.reaches(Make.grid(3, 4, 'o')), "4664/6996/4664");
        CHECK.same("15: s", Look.reaches(Make.grid(3, 4, 's')), "1111/1111/1111");
        CHECK.same("15: + in a column", Look.reaches(Make.grid(3, 1, '+')), "2/3/2");
        CHECK.same("15: x in a row", Look.reaches(Make.grid(1, 3, 'x')), "111");
        CHECK.same("15: one cell", Look.reaches(Make.grid(1, 1, 'o')), "1");
    }

    private static void wrongCells() {
        int[][] wrong = {{2, 0}, {0, 3}, {-1, 0}, {0, -1}, {5, 5}, {1, 6}, {-1, 6},
                {Integer.MIN_VALUE, 0}, {0, Integer.MAX_VALUE}};
        for (int[] cell : wrong) {
            GlowwormGrid grid = Make.lit('+', "*.*", "..*");
            int row = cell[0];
            int column = cell[1];
            String where = " " + row + " " + column;
            CHECK.refused("4:" + where, INDEX, grid, () -> grid.setLight(row, column, true));
            CHECK.refused("5:" + where, INDEX, grid, () -> grid.press(row, column));
            CHECK.refused("9:" + where, INDEX, grid, () -> grid.isLit(row, column));
            CHECK.refused("10:" + where, INDEX, grid, () -> grid.isLitByPresses(row, column));
            CHECK.refused("14:" + where, INDEX, grid, () -> grid.pressesOf(row, column));
        }
        for (int[] cell : wrong) {
            GlowwormGrid grid = Make.lit('+', "*.*", "..*");
            CHECK.refused("15: " + cell[0] + " " + cell[1], INDEX, grid, () -> grid.reachOf(cell[0], cell[1]));
        }
        int[] lines = {-1, 2, 5, 6, Integer.MIN_VALUE, Integer.MAX_VALUE};
        for (int number : lines) {
            GlowwormGrid wide = Make.grid(2, 5, '+');
            GlowwormGrid high = Make.grid(5, 2, '+');
            CHECK.refused("12: " + number, INDEX, wide, () -> wide.litInRow(number));
            CHECK.refused("13: " + number, INDEX, high, () -> high.litInColumn(number));
        }
    }
}
