import java.util.NoSuchElementException;

/** Promises 16 to 28: goals and solutions. */
final class GoalTest {
    private static final Check CHECK = new Check("GoalTest");
    private static final Class<IndexOutOfBoundsException> INDEX = IndexOutOfBoundsException.class;
    private static final Class<NoSuchElementException> NO_SUCH = NoSuchElementException.class;

    private GoalTest() {
    }

    public static void main(String[] arguments) {
        goals();
        differences();
        solvable();
        quietSets();
        quietCellsOfAnother();
        everySize();
        bestSolution();
        bestOfSeveral();
        solve();
        unsolvable();
        chase();
        chaseOtherPatterns();
        wrongCells();
        CHECK.end();
    }

    private static void goals() {
        GlowwormGrid grid = Make.grid(2, 3, '+');
        CHECK.yes("16: to lit", grid.toggleGoal(1, 2));
        CHECK.yes("16: another", grid.toggleGoal(0, 1));
        CHECK.same("17: goals", Look.goals(grid), ".*./..*");
        CHECK.no("16: to dark", grid.toggleGoal(1, 2));
        CHECK.same("17: goals", Look.goals(grid), ".*./...");
        CHECK.same("16: lights kept", Look.lights(grid), ".../...");
        grid.press(0, 1);
        CHECK.same("17: a press keeps goals", Look.goals(grid), ".*./...");
    }

    private static void differences() {
        GlowwormGrid grid = Make.lit('s', "*..", "..*");
        CHECK.no("18: lights differ", grid.isReached());
        CHECK.same("19: two", grid.differenceCount(), 2);
        grid.toggleGoal(0, 0);
        CHECK.same("19: one", grid.differenceCount(), 1);
        CHECK.no("18: one differs", grid.isReached());
        grid.toggleGoal(1, 2);
        CHECK.yes("18: none differs", grid.isReached());
        CHECK.same("19: none", grid.differenceCount(), 0);
        grid.toggleGoal(0, 1);
        CHECK.no("18: a dark light with a lit goal", grid.isReached());
        CHECK.same("19: a dark light with a lit goal", grid.differenceCount(), 1);
    }

    private static void solvable() {
        GlowwormGrid grid = Make.grid(4, 4, '+');
        CHECK.yes("20: reached", grid.isSolvable());
        CHECK.yes("21: reached", grid.isSolvableByParity());
        grid.setLight(0, 0, true);
        CHECK.no("20: one light", grid.isSolvable());
        CHECK.no("21: one light", grid.isSolvableByParity());
        grid.toggleGoal(0, 0);
        CHECK.yes("20: its goal", grid.isSolvable());
        CHECK.yes("21: its goal", grid.isSolvableByParity());
        // In one column, the pattern x reaches the cell alone, so that all can be solved.
        grid = Make.lit('x', "*", ".", "*");
        CHECK.yes("20: x in a column", grid.isSolvable());
        CHECK.yes("21: x in a column", grid.isSolvableByParity());
        grid = Make.lit('+', "*.");
        CHECK.no("20: one of two", grid.isSolvable());
        CHECK.no("21: one of two", grid.isSolvableByParity());
        grid.setLight(0, 1, true);
        CHECK.yes("20: two of two", grid.isSolvable());
        CHECK.yes("21: two of two", grid.isSolvableByParity());
        grid.press(0, 0);
        CHECK.yes("21: asked first", grid.isSolvableByParity());
        grid.setLight(0, 0, true);
        CHECK.no("21: asked first", grid.isSolvableByParity());
        grid.resize(3, 3);
        grid.setLight(0, 0, true);
        CHECK.yes("21: after another size", grid.isSolvableByParity());
    }

    private static void quietSets() {
        quiet("3x3 +", 0, ".../.../...");
        quiet("4x4 +", 4, "****/****/****/****");
        quiet("5x5 +", 2, "*****/*.*.*/**.**/*.*.*/*****");
        quiet("2x1 +", 1, "*/*");
        quiet("1x5 +", 1, "**.**");
        quiet("2x2 +", 0, "../..");
        quiet("2x3 +", 2, "***/***");
        quiet("2x5 +", 1, "*.*.*/*.*.*");
        quiet("5x5 o", 9, "*****/*****/**.**/*****/*****");
        quiet("2x2 o", 3, "**/**");
        quiet("1x1 o", 0, ".");
        quiet("2x2 x", 2, "**/**");
        quiet("5x5 x", 4, "*****/*****/**.**/*****/*****");
        quiet("3x1 x", 0, "././.");
        quiet("5x5 s", 0, "...../...../...../...../.....");
    }

    private static void quiet(String what, int number, String cells) {
        GlowwormGrid grid = Make.grid(what.charAt(0) - '0', what.charAt(2) - '0', what.charAt(4));
        CHECK.same("22: " + what, grid.quietNumber(), number);
        CHECK.same("23: " + what, Look.quietCells(grid), cells);
        CHECK.same("24: " + what, grid.quietCellCount(), cells.replaceAll("[^*]", "").length());
        grid.setLight(0, 0, true);
        CHECK.same("22: lights do not matter, " + what, grid.quietNumber(), number);
        CHECK.same("23: lights do not matter, " + what, Look.quietCells(grid), cells);
    }

    private static void quietCellsOfAnother() {
        GlowwormGrid grid = Make.grid(2, 2, 'o');
        CHECK.same("24: 2x2 o", grid.quietCellCount(), 4);
        grid.resize(1, 5);
        CHECK.same("24: then 1x5 o", grid.quietCellCount(), 4);
        CHECK.same("23: then 1x5 o", Look.quietCells(grid), "**.**");
        grid.setPattern('s');
        CHECK.no("23: then s", grid.isQuietCell(0, 0));
        CHECK.same("24: then s", grid.quietCellCount(), 0);
    }

    /** Every size with every pattern, against the model's search through all sets. */
    private static void everySize() {
        for (int index = 0; index < 100; index++) {
            int rows = 1 + index / 4 / 5;
            int columns = 1 + index / 4 % 5;
            char pattern = "+xos".charAt(index % 4);
            GlowwormGrid grid = Make.grid(rows, columns, pattern);
            Model model = new Model();
            model.setPattern(pattern);
            model.resize(rows, columns);
            String what = rows + "x" + columns + " " + pattern;
            CHECK.same("22: " + what, grid.quietNumber(), model.quietNumber());
            CHECK.same("24: " + what, grid.quietCellCount(), model.quietCellCount());
            for (int press = 0; press < rows * columns; press += 1 + press % 3) {
                grid.press(press / columns, press % columns);
                model.press(press / columns, press % columns);
            }
            CHECK.yes("20: " + what, grid.isSolvable());
            CHECK.yes("21: " + what, grid.isSolvableByParity());
            CHECK.same("25: " + what, grid.fewestPresses(), model.fewestPresses());
            for (int cell = 0; cell < rows * columns; cell++) {
                int row = cell / columns;
                int column = cell % columns;
                CHECK.same("26: " + what + cell, grid.isInSolution(row, column) ? 1 : 0,
                        model.isInSolution(row, column) ? 1 : 0);
            }
            for (int cell = 0; cell < rows * columns; cell++) {
                grid.setLight(cell / columns, cell % columns, cell % 7 < 3);
                model.setLight(cell / columns, cell % columns, cell % 7 < 3);
                CHECK.same("21: lights, " + what, grid.isSolvableByParity() ? 1 : 0, model.isSolvable() ? 1 : 0);
                CHECK.same("20: lights, " + what, grid.isSolvable() ? 1 : 0, model.isSolvable() ? 1 : 0);
            }
        }
    }

    private static void bestSolution() {
        GlowwormGrid grid = new GlowwormGrid();
        CHECK.same("25: reached", grid.fewestPresses(), 0);
        CHECK.same("26: reached", Look.solution(grid), ".../.../...");
        grid.press(0, 1);
        grid.press(2, 2);
        CHECK.same("25: two presses", grid.fewestPresses(), 2);
        CHECK.same("26: two presses", Look.solution(grid), ".*./.../..*");
        grid.setPattern('s');
        grid.toggleGoal(0, 1);
        grid.toggleGoal(2, 0);
        CHECK.same("26: each light that differs", Look.solution(grid), "*.*/.**/***");
        CHECK.same("25: each light that differs", grid.fewestPresses(), 7);
        grid = Make.lit('o', "***", "***", "***");
        CHECK.same("26: o", Look.solution(grid), ".../.*./...");
    }

    private static void bestOfSeveral() {
        CHECK.same("26: the later of two", Look.solution(Make.lit('+', "**")), ".*");
        CHECK.same("26: the lower of two", Look.solution(Make.lit('+', "*", "*")), "./*");
        CHECK.same("26: the last of four", Look.solution(Make.lit('o', "**", "**")), "../.*");
        CHECK.same("26: of a diagonal", Look.solution(Make.lit('x', ".*", "*.")), "../*.");
        // The one quiet set of 1x5 is "**.**".
        CHECK.same("26: fewest before order", Look.solution(Make.lit('+', "**...")), "*....");
        CHECK.same("25: fewest before order", Make.lit('+', "**...").fewestPresses(), 1);
        CHECK.same("26: two against two", Look.solution(Make.lit('+', "..*..")), "...**");
        CHECK.same("26: the first cell that differs decides", Look.solution(Make.lit('+', "*****")), ".*..*");
        CHECK.same("26: three against three", Look.solution(Make.lit('+', "*.*.*")), ".***.");
    }

    private static void solve() {
        GlowwormGrid grid = new GlowwormGrid();
        CHECK.same("27: reached", grid.solve(), 0);
        CHECK.same("27: reached, no presses", Look.presses(grid), "000/000/000");
        grid = Make.lit('+', "*****");
        grid.press(0, 4);
        grid.press(0, 4);
        CHECK.same("27: number", grid.solve(), 2);
        CHECK.yes("27: goal", grid.isReached());
        CHECK.same("27: presses", Look.presses(grid), "01003");
        CHECK.same("27: lights", Look.lights(grid), ".....");
        grid = Make.grid(3, 3, '+');
        grid.toggleGoal(0, 0);
        grid.toggleGoal(0, 1);
        grid.toggleGoal(1, 0);
        CHECK.same("27: to a lit goal", grid.solve(), 1);
        CHECK.same("27: to a lit goal, lights", Look.lights(grid), "**./*../...");
        CHECK.same("27: to a lit goal, presses", Look.presses(grid), "100/000/000");
    }

    private static void unsolvable() {
        GlowwormGrid grid = Make.lit('+', "*.");
        CHECK.refused("25: none", NO_SUCH, grid, grid::fewestPresses);
        CHECK.refused("26: none", NO_SUCH, grid, () -> grid.isInSolution(0, 0));
        CHECK.refused("26: none and no such cell", INDEX, grid, () -> grid.isInSolution(0, 2));
        CHECK.refused("27: none", NO_SUCH, grid, grid::solve);
    }

    private static void chase() {
        GlowwormGrid grid = Make.lit('+', "*..", "...", "...");
        CHECK.same("28: number", grid.chase(), 3);
        CHECK.same("28: lights", Look.lights(grid), ".../.../*.*");
        CHECK.same("28: presses", Look.presses(grid), "000/100/110");
        CHECK.same("28: the last row stays", grid.chase(), 0);
        CHECK.same("28: the last row stays", Look.lights(grid), ".../.../*.*");
        grid = Make.grid(2, 3, '+');
        grid.toggleGoal(0, 1);
        grid.setLight(0, 2, true);
        CHECK.same("28: goals", grid.chase(), 2);
        CHECK.same("28: goals, lights", Look.lights(grid), ".*./*..");
        CHECK.same("28: goals, presses", Look.presses(grid), "000/011");
        grid = Make.lit('+', "*....", ".....", ".....", ".....", "..*.*");
        CHECK.same("28: 5x5", grid.chase(), 8);
        CHECK.same("28: 5x5, lights", Look.lights(grid), "...../...../...../...../..*..");
        CHECK.same("28: 5x5, presses", Look.presses(grid), "00000/10000/11000/10100/01110");
        CHECK.same("28: one row", Make.lit('+', "**.").chase(), 0);
    }

    private static void chaseOtherPatterns() {
        for (char pattern : new char[] {'x', 'o', 's'}) {
            GlowwormGrid grid = Make.lit(pattern, "*.", "..");
            CHECK.refused("28: " + pattern, UnsupportedOperationException.class, grid, grid::chase);
        }
    }

    private static void wrongCells() {
        int[][] wrong = {{2, 0}, {0, 3}, {-1, 0}, {0, -1}, {5, 5}, {1, 6}, {-1, 6},
                {Integer.MAX_VALUE, 0}, {0, Integer.MIN_VALUE}};
        for (int[] cell : wrong) {
            GlowwormGrid grid = Make.grid(2, 3, '+');
            int row = cell[0];
            int column = cell[1];
            String where = " " + row + " " + column;
            CHECK.refused("16:" + where, INDEX, grid, () -> grid.toggleGoal(row, column));
            CHECK.refused("17:" + where, INDEX, grid, () -> grid.isGoalLit(row, column));
            CHECK.refused("23:" + where, INDEX, grid, () -> grid.isQuietCell(row, column));
            CHECK.refused("26:" + where, INDEX, grid, () -> grid.isInSolution(row, column));
        }
    }
}
