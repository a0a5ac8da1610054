import java.util.NoSuchElementException;

/** The boundary cases of promises 16 to 28, a test for each sentence: goals and solutions. */
final class EdgeGoalTest {
    private static final Check CHECK = new Check("EdgeGoalTest");
    private static final Class<NoSuchElementException> NO_SUCH = NoSuchElementException.class;
    private static final String NO_CELL = "Throws IndexOutOfBoundsException if there is no such cell";
    private static final String NO_SOLUTION = "Throws NoSuchElementException if there is no solution";
    private static final int MOST_CELLS_TO_TRY = 10;

    private EdgeGoalTest() {
    }

    public static void main(String[] arguments) {
        toggleGoal();
        toggleGoalNoCell();
        isGoalLitNoCell();
        isReached();
        differenceCount();
        isSolvable();
        isSolvableByParity();
        quietNumber();
        quietSetsAreNotEmpty();
        countOfQuietSets();
        isQuietCell();
        isQuietCellNoCell();
        quietCellCount();
        fewestOfReached();
        fewestPresses();
        fewestPressesNoSolution();
        solutionReachesTheGoal();
        fewestBeforeOrder();
        firstCellThatDiffers();
        orderOfCells();
        isInSolutionNoCell();
        isInSolutionNoSolution();
        isInSolutionNeither();
        solve();
        solveIsRecorded();
        solveNoSolution();
        chaseFromRowOne();
        chaseAtThisTime();
        chaseIsRecorded();
        chaseOtherPattern();
        CHECK.end();
    }

    private static void toggleGoal() {
        CHECK.sentence(16, "Returns whether it is lit afterwards.");
        GlowwormGrid grid = Make.grid(5, 5, '+');
        CHECK.yes("once", grid.toggleGoal(4, 4));
        CHECK.yes("lit", grid.isGoalLit(4, 4));
        CHECK.no("twice", grid.toggleGoal(4, 4));
        CHECK.no("dark", grid.isGoalLit(4, 4));
        CHECK.yes("three times", grid.toggleGoal(4, 4));
        CHECK.same("the others stay", Look.goals(grid), "...../...../...../...../....*");
    }

    private static void toggleGoalNoCell() {
        CHECK.sentence(16, NO_CELL);
        GlowwormGrid grid = Make.grid(5, 5, 'o');
        grid.toggleGoal(0, 0);
        grid.toggleGoal(0, 4);
        grid.toggleGoal(4, 0);
        grid.toggleGoal(4, 4);
        CHECK.same("corners", Look.goals(grid), "*...*/...../...../...../*...*");
        Outside.cellsAreRefused(CHECK, GlowwormGrid::toggleGoal);
    }

    private static void isGoalLitNoCell() {
        CHECK.sentence(17, NO_CELL);
        GlowwormGrid grid = Make.grid(2, 5, '+');
        grid.toggleGoal(1, 4);
        CHECK.no("first cell", grid.isGoalLit(0, 0));
        CHECK.yes("last cell", grid.isGoalLit(1, 4));
        Outside.cellsAreRefused(CHECK, GlowwormGrid::isGoalLit);
    }

    private static void isReached() {
        CHECK.sentence(18, "The goal of the grid is reached if each light is like the goal of its cell.");
        for (int cell = 0; cell < 25; cell++) {
            GlowwormGrid grid = allGoalsLit(5, 5);
            CHECK.yes("all lit as their goals", grid.isReached());
            grid.setLight(cell / 5, cell % 5, false);
            CHECK.no("one dark", grid.isReached());
            grid.toggleGoal(cell / 5, cell % 5);
            CHECK.yes("and its goal", grid.isReached());
        }
        GlowwormGrid single = Make.grid(1, 1, '+');
        CHECK.yes("the smallest, dark", single.isReached());
        single.press(0, 0);
        CHECK.no("the smallest, lit", single.isReached());
    }

    private static GlowwormGrid allGoalsLit(int rows, int columns) {
        GlowwormGrid grid = Make.full(rows, columns, '+');
        for (int cell = 0; cell < rows * columns; cell++) {
            grid.toggleGoal(cell / columns, cell % columns);
        }
        return grid;
    }

    private static void differenceCount() {
        CHECK.sentence(19, "Returns the number of lights that are not like the goals of their cells.");
        CHECK.same("none, all dark", Make.grid(5, 5, '+').differenceCount(), 0);
        CHECK.same("none, all lit", allGoalsLit(5, 5).differenceCount(), 0);
        CHECK.same("all are lit", Make.full(5, 5, '+').differenceCount(), 25);
        GlowwormGrid grid = allGoalsLit(5, 5);
        for (int cell = 0; cell < 25; cell++) {
            grid.setLight(cell / 5, cell % 5, false);
            CHECK.same("dark ones", grid.differenceCount(), cell + 1);
        }
    }

    private static void isSolvable() {
        CHECK.sentence(20, "Returns whether there is a solution, by elimination.");
        CHECK.yes("no light", Make.lit('+', "..").isSolvable());
        CHECK.no("the first of two", Make.lit('+', "*.").isSolvable());
        CHECK.no("the second of two", Make.lit('+', ".*").isSolvable());
        CHECK.yes("both", Make.lit('+', "**").isSolvable());
        CHECK.yes("the smallest", Make.lit('o', "*").isSolvable());
        CHECK.yes("the largest, full", Make.full(5, 5, '+').isSolvable());
        for (int cell = 0; cell < 25; cell++) {
            GlowwormGrid grid = Make.grid(5, 5, 's');
            grid.setLight(cell / 5, cell % 5, true);
            CHECK.yes("with s, each light", grid.isSolvable());
            grid = Make.grid(5, 5, '+');
            grid.setLight(cell / 5, cell % 5, true);
            // No quiet set of 5x5 with + has one of these three cells.
            CHECK.same("with +, one light", grid.isSolvable() ? 1 : 0, isQuietWithPlus(cell) ? 0 : 1);
        }
    }

    private static boolean isQuietWithPlus(int cell) {
        return "*****/*.*.*/**.**/*.*.*/*****".charAt(cell / 5 * 6 + cell % 5) == '*';
    }

    private static void isSolvableByParity() {
        CHECK.sentence(21, "Returns the same as isSolvable, by checking that each quiet set contains an even number of "
                + "cells whose lights are not like their goals.");
        // The quiet sets of 2x2 with o are all sets of two cells and that of all four.
        CHECK.yes("0 of each", Make.lit('o', "..", "..").isSolvableByParity());
        CHECK.no("1 of some", Make.lit('o', "*.", "..").isSolvableByParity());
        CHECK.no("1 of some, the last", Make.lit('o', "..", ".*").isSolvableByParity());
        CHECK.no("2 of all four, 1 of some", Make.lit('o', "**", "..").isSolvableByParity());
        CHECK.no("3 of all four", Make.lit('o', "**", "*.").isSolvableByParity());
        CHECK.yes("2 or 4 of each", Make.lit('o', "**", "**").isSolvableByParity());
        // Those of 2x2 with x are the two diagonals and both together.
        CHECK.no("1 of each diagonal, 2 of both", Make.lit('x', "**", "..").isSolvableByParity());
        CHECK.yes("2 of one diagonal", Make.lit('x', "*.", ".*").isSolvableByParity());
        // 3x3 with + has none.
        CHECK.yes("there are no quiet sets", Make.lit('+', "*..", "...", "...").isSolvableByParity());
        GlowwormGrid grid = Make.lit('+', "*.");
        CHECK.no("a light", grid.isSolvableByParity());
        grid.toggleGoal(0, 0);
        CHECK.yes("and its goal", grid.isSolvableByParity());
        grid.toggleGoal(0, 1);
        CHECK.no("another goal", grid.isSolvableByParity());
    }

    private static void quietNumber() {
        CHECK.sentence(22, "Returns the quiet number, 0 if there are no quiet sets.");
        for (int side = 1; side <= 5; side++) {
            CHECK.same("none with s", Make.grid(side, side, 's').quietNumber(), 0);
            CHECK.same("none with x in a row", Make.grid(1, side, 'x').quietNumber(), 0);
        }
        CHECK.same("none with + 3x3", Make.grid(3, 3, '+').quietNumber(), 0);
        CHECK.same("the smallest", Make.grid(1, 1, 'o').quietNumber(), 0);
        CHECK.same("one", Make.grid(1, 2, '+').quietNumber(), 1);
        CHECK.same("the most", Make.grid(5, 5, 'o').quietNumber(), 9);
    }

    private static void quietSetsAreNotEmpty() {
        CHECK.sentence(24, "A quiet set is a non-empty set of cells; if each of them is pressed once, no light is "
                + "different afterwards.");
        GlowwormGrid none = new GlowwormGrid();
        CHECK.same("the empty set is none", none.quietNumber(), 0);
        CHECK.same("no cells", none.quietCellCount(), 0);
        GlowwormGrid grid = Make.lit('+', ".*.*.");
        String before = Look.lights(grid);
        for (int column : new int[] {0, 1, 3, 4}) {
            grid.press(0, column);
        }
        CHECK.same("the one of 1x5 leaves all as it was", Look.lights(grid), before);
        CHECK.same("its cells", Look.quietCells(grid), "**.**");
    }

    private static void countOfQuietSets() {
        CHECK.sentence(22, "The quiet number is the number n for which there are 2 to the power of n minus 1 quiet "
                + "sets.");
        for (int rows = 1; rows <= 5; rows++) {
            for (int columns = 1; columns <= 5 && rows * columns <= MOST_CELLS_TO_TRY; columns++) {
                for (char pattern : "+xos".toCharArray()) {
                    int[] triedSets = quietSets(rows, columns, pattern);
                    GlowwormGrid grid = Make.grid(rows, columns, pattern);
                    String what = rows + "x" + columns + " " + pattern;
                    CHECK.same(what, (1 << grid.quietNumber()) - 1, triedSets[0]);
                    CHECK.same(what + ", cells", grid.quietCellCount(), Integer.bitCount(triedSets[1]));
                }
            }
        }
    }

    /** By pressing each set: how many sets are quiet, and the cells that stand in one of them. */
    private static int[] quietSets(int rows, int columns, char pattern) {
        int[] found = new int[2];
        for (int set = 1; set < 1 << rows * columns; set++) {
            GlowwormGrid grid = Make.grid(rows, columns, pattern);
            for (int cell = 0; cell < rows * columns; cell++) {
                if ((set >> cell & 1) == 1) {
                    grid.press(cell / columns, cell % columns);
                }
            }
            if (grid.litCount() == 0) {
                found[0]++;
                found[1] |= set;
            }
        }
        return found;
    }

    private static void isQuietCell() {
        CHECK.sentence(23, "Returns whether a cell is contained in a quiet set.");
        CHECK.same("in none", Look.quietCells(Make.grid(1, 4, '+')), "....");
        CHECK.same("in one", Look.quietCells(Make.grid(1, 5, '+')), "**.**");
        CHECK.same("in some", Look.quietCells(Make.grid(5, 5, 'o')), "*****/*****/**.**/*****/*****");
        CHECK.same("all cells", Look.quietCells(Make.grid(4, 4, '+')), "****/****/****/****");
        CHECK.same("1x1", Look.quietCells(Make.grid(1, 1, '+')), ".");
    }

    private static void isQuietCellNoCell() {
        CHECK.sentence(23, NO_CELL);
        GlowwormGrid grid = Make.grid(2, 5, '+');
        CHECK.yes("first cell", grid.isQuietCell(0, 0));
        CHECK.yes("last cell", grid.isQuietCell(1, 4));
        CHECK.no("another", grid.isQuietCell(1, 3));
        Outside.cellsAreRefused(CHECK, GlowwormGrid::isQuietCell);
    }

    private static void quietCellCount() {
        CHECK.sentence(24, "Returns the number of cells that are contained in quiet sets.");
        CHECK.same("none", Make.grid(5, 5, 's').quietCellCount(), 0);
        CHECK.same("all but one", Make.grid(5, 5, 'o').quietCellCount(), 24);
        CHECK.same("all", Make.grid(4, 4, '+').quietCellCount(), 16);
        CHECK.same("both of two", Make.grid(2, 1, 'o').quietCellCount(), 2);
        GlowwormGrid grid = Make.grid(5, 5, 'o');
        CHECK.same("at first the most", grid.quietCellCount(), 24);
        grid.resize(1, 5);
        CHECK.same("then those of one", grid.quietCellCount(), 4);
        CHECK.same("then those of one", Look.quietCells(grid), "**.**");
        grid.setPattern('s');
        CHECK.same("then none", grid.quietCellCount(), 0);
    }

    private static void fewestOfReached() {
        CHECK.sentence(25, "If the goal is reached, the best solution is the empty set.");
        for (char pattern : "+xos".toCharArray()) {
            for (int side = 1; side <= 5; side++) {
                GlowwormGrid grid = Make.grid(side, side, pattern);
                CHECK.same("cells", grid.fewestPresses(), 0);
                CHECK.no("first cell", grid.isInSolution(0, 0));
                CHECK.no("last cell", grid.isInSolution(side - 1, side - 1));
                CHECK.same("presses", grid.solve(), 0);
            }
        }
        CHECK.same("all lights and goals lit", allGoalsLit(5, 5).fewestPresses(), 0);
    }

    private static void fewestPresses() {
        CHECK.sentence(25, "Returns the number of cells of the best solution.");
        GlowwormGrid one = Make.grid(5, 5, 'o');
        one.press(4, 4);
        CHECK.same("one", one.fewestPresses(), 1);
        CHECK.same("the most with +", Make.full(5, 5, '+').fewestPresses(), 15);
        CHECK.same("all cells with s", Make.full(5, 5, 's').fewestPresses(), 25);
        CHECK.same("the smallest", Make.full(1, 1, '+').fewestPresses(), 1);
    }

    private static void fewestPressesNoSolution() {
        CHECK.sentence(25, NO_SOLUTION);
        CHECK.same("no light", Make.lit('+', "..").fewestPresses(), 0);
        CHECK.same("two lights", Make.lit('+', "**").fewestPresses(), 1);
        CHECK.refused("one light", NO_SUCH, EdgeGoalTest::unsolvable, GlowwormGrid::fewestPresses);
        CHECK.refused("one of 25", NO_SUCH, EdgeGoalTest::unsolvableLargest, GlowwormGrid::fewestPresses);
    }

    /** One light of two is not like its goal. */
    private static GlowwormGrid unsolvable() {
        GlowwormGrid grid = Make.busyTyping(1, 2, '+');
        grid.setLight(0, 0, true);
        grid.setLight(0, 1, true);
        CHECK.same("differences", grid.differenceCount(), 1);
        return grid;
    }

    private static GlowwormGrid unsolvableLargest() {
        GlowwormGrid grid = Make.grid(5, 5, '+');
        grid.press(2, 2);
        grid.setLight(4, 4, true);
        return grid;
    }

    private static void solutionReachesTheGoal() {
        CHECK.sentence(26, "A solution is a set of cells; if each of them is pressed once, the goal is reached.");
        for (char pattern : "+xos".toCharArray()) {
            GlowwormGrid grid = Make.grid(4, 5, pattern);
            for (int cell = 0; cell < 20; cell += 3) {
                grid.press(cell / 5, cell % 5);
            }
            grid.press(3, 4);
            String cells = Look.solution(grid);
            int left = grid.fewestPresses();
            for (int cell = 0; cell < 20; cell++) {
                if (cells.charAt(cell / 5 * 6 + cell % 5) == '*') {
                    CHECK.no("not before the last, " + pattern, grid.isReached());
                    CHECK.same("left, " + pattern, grid.fewestPresses(), left);
                    grid.press(cell / 5, cell % 5);
                    left--;
                }
            }
            CHECK.yes("after the last, " + pattern, grid.isReached());
            CHECK.same("none left, " + pattern, left, 0);
        }
    }

    private static void orderOfCells() {
        CHECK.sentence(26, "The cells are ordered by rows, and in a row by columns.");
        CHECK.same("row 0, column 1 is before row 1, column 0", Look.solution(Make.lit('x', ".*", "*.")), "../*.");
        CHECK.same("column 0 is before column 1", Look.solution(Make.lit('o', "**")), ".*");
    }

    private static void fewestBeforeOrder() {
        CHECK.sentence(26, "The best solution is the one with the fewest cells; of several, it is the one that does "
                + "not contain the first cell, in the order of cells, that is contained in one of both but not in the "
                + "other.");
        CHECK.same("1 cell, the first one, before 3", Look.solution(Make.lit('+', "**...")), "*....");
        CHECK.same("1 cell, the last one, before 3", Look.solution(Make.lit('+', "...**")), "....*");
        CHECK.same("2 cells, the first one among them, before 4", Look.solution(Make.lit('+', "*.**.")), "*.*..");
    }

    private static void firstCellThatDiffers() {
        CHECK.sentence(26, "The best solution is the one with the fewest cells; of several, it is the one that does "
                + "not contain the first cell, in the order of cells, that is contained in one of both but not in the "
                + "other.");
        CHECK.same("of two in a row", Look.solution(Make.lit('+', "**")), ".*");
        CHECK.same("of two in a column", Look.solution(Make.lit('+', "*", "*")), "./*");
        CHECK.same("of four", Look.solution(Make.lit('o', "**", "**")), "../.*");
        CHECK.same("by rows first", Look.solution(Make.lit('x', ".*", "*.")), "../*.");
        CHECK.same("an earlier cell without, a later one with", Look.solution(Make.lit('+', "*.*.*")), ".***.");
        CHECK.same("2 cells of 2", Look.solution(Make.lit('+', "**.**")), ".*.*.");
        CHECK.same("the first cell is in both, the second decides", Look.solution(Make.lit('o', "**", "..", "..")),
                "../.*/.*");
        CHECK.same("the second is in the last row", Look.solution(Make.lit('o', "**", "..", "**")), ".*/../.*");
        CHECK.same("both of two diagonals", Look.solution(Make.lit('x', "**", "**")), "../**");
    }

    private static void isInSolutionNoCell() {
        CHECK.sentence(26, NO_CELL);
        GlowwormGrid grid = Make.full(5, 5, 's');
        grid.press(0, 0);
        CHECK.no("first cell", grid.isInSolution(0, 0));
        CHECK.yes("last cell", grid.isInSolution(4, 4));
        Outside.cellsAreRefused(CHECK, GlowwormGrid::isInSolution);
    }

    private static void isInSolutionNoSolution() {
        CHECK.sentence(26, NO_SOLUTION);
        CHECK.yes("two lights", Make.lit('+', "**").isInSolution(0, 1));
        CHECK.refused("one light, first cell", NO_SUCH, EdgeGoalTest::unsolvable, grid -> grid.isInSolution(0, 0));
        CHECK.refused("one light, last cell", NO_SUCH, EdgeGoalTest::unsolvable, grid -> grid.isInSolution(0, 1));
        CHECK.refused("one of 25", NO_SUCH, EdgeGoalTest::unsolvableLargest, grid -> grid.isInSolution(4, 4));
    }

    private static void isInSolutionNeither() {
        CHECK.sentence(26, "If several exceptions apply, the one that is documented first is thrown.");
        int[][] outside = {{-1, 0}, {0, -1}, {1, 0}, {0, 2}, {1, 2}};
        for (int[] cell : outside) {
            CHECK.refused("no such cell and no solution", IndexOutOfBoundsException.class, EdgeGoalTest::unsolvable,
                    grid -> grid.isInSolution(cell[0], cell[1]));
        }
    }

    private static void solve() {
        CHECK.sentence(27, "Returns the number of presses.");
        CHECK.same("none", Make.grid(5, 5, '+').solve(), 0);
        CHECK.same("one", Make.full(1, 1, '+').solve(), 1);
        GlowwormGrid grid = Make.full(5, 5, 's');
        CHECK.same("all cells", grid.solve(), 25);
        CHECK.yes("reached", grid.isReached());
        CHECK.same("again", grid.solve(), 0);
        CHECK.yes("still reached", grid.isReached());
    }

    private static void solveIsRecorded() {
        CHECK.sentence(27, "Presses that are made by solve, chase and step are recorded, too.");
        GlowwormGrid grid = Make.full(5, 5, 's');
        grid.solve();
        CHECK.same("each cell once", Look.presses(grid), "11111/11111/11111/11111/11111");
        CHECK.same("by presses", Look.lightsByPresses(grid), "...../...../...../...../.....");
        grid.solve();
        CHECK.same("none more", Look.presses(grid), "11111/11111/11111/11111/11111");
    }

    private static void solveNoSolution() {
        CHECK.sentence(27, NO_SOLUTION);
        GlowwormGrid grid = Make.lit('+', "**");
        CHECK.same("two lights", grid.solve(), 1);
        CHECK.refused("one light", NO_SUCH, EdgeGoalTest::unsolvable, GlowwormGrid::solve);
        CHECK.refused("one of 25", NO_SUCH, EdgeGoalTest::unsolvableLargest, GlowwormGrid::solve);
    }

    private static void chaseFromRowOne() {
        CHECK.sentence(28, "To chase the lights means, for each row from row 1 on, to press each cell of this row, in "
                + "the order of columns, for which the cell above it has a light that is not like its goal at this "
                + "time.");
        GlowwormGrid single = Make.full(1, 5, '+');
        CHECK.same("no row 1", single.chase(), 0);
        CHECK.same("no row 1, lights", Look.lights(single), "*****");
        GlowwormGrid last = Make.lit('+', "..", "**");
        CHECK.same("nothing above the last row", last.chase(), 0);
        CHECK.same("the last row stays", Look.lights(last), "../**");
        for (int rows = 1; rows <= 5; rows++) {
            GlowwormGrid grid = Make.grid(rows, 5, '+');
            for (int column = 0; column < 5; column++) {
                grid.setLight(rows - 1, column, true);
            }
            CHECK.same("only the last of " + rows + " rows", grid.chase(), 0);
            CHECK.same("the first of " + rows + " rows is never pressed", grid.meanPresses(), 0.0);
        }
        GlowwormGrid corner = Make.lit('+', ".....", ".....", ".....", "....*", ".....");
        CHECK.same("above the last cell", corner.chase(), 1);
        CHECK.same("above the last cell, presses", Look.presses(corner), "00000/00000/00000/00000/00001");
    }

    private static void chaseAtThisTime() {
        CHECK.sentence(28, "To chase the lights means, for each row from row 1 on, to press each cell of this row, in "
                + "the order of columns, for which the cell above it has a light that is not like its goal at this "
                + "time.");
        GlowwormGrid all = Make.lit('+', "*****", "*...*", ".***.", ".***.", ".....");
        CHECK.same("all cells from row 1 on", all.chase(), 20);
        CHECK.same("all cells, presses", Look.presses(all), "00000/11111/11111/11111/11111");
        CHECK.same("all cells, lights", Look.lights(all), "...../...../...../...../*...*");
        GlowwormGrid goals = Make.grid(3, 1, '+');
        goals.toggleGoal(0, 0);
        CHECK.same("a lit goal above, then none", goals.chase(), 2);
        CHECK.same("lights like the goals above", Look.lights(goals), "*/./.");
        GlowwormGrid reached = allGoalsLit(5, 5);
        CHECK.same("reached, all lit", reached.chase(), 0);
        CHECK.yes("still reached", reached.isReached());
    }

    private static void chaseIsRecorded() {
        CHECK.sentence(28, "Presses that are made by solve, chase and step are recorded, too.");
        GlowwormGrid grid = Make.full(2, 5, '+');
        grid.chase();
        CHECK.same("presses", Look.presses(grid), "00000/11111");
        CHECK.same("by presses", Look.lightsByPresses(grid), Look.lights(grid));
    }

    private static void chaseOtherPattern() {
        CHECK.sentence(28, "Throws UnsupportedOperationException if the pattern is not +");
        CHECK.same("+", Make.lit('+', "*", ".").chase(), 1);
        for (char pattern : "xos".toCharArray()) {
            CHECK.refused("2x3 " + pattern, UnsupportedOperationException.class,
                    () -> Make.busyTyping(2, 3, pattern), GlowwormGrid::chase);
            CHECK.refused("nothing to press, " + pattern, UnsupportedOperationException.class,
                    () -> Make.grid(1, 1, pattern), GlowwormGrid::chase);
        }
        GlowwormGrid grid = Make.lit('x', "*", ".");
        Whole.outcome(grid, GlowwormGrid::chase);
        grid.setPattern('+');
        CHECK.same("+ again", grid.chase(), 1);
    }
}
