import java.util.NoSuchElementException;

/** The boundary cases of promises 1 to 15, a test for each sentence: the grid. */
final class EdgeGridTest {
    private static final Check CHECK = new Check("EdgeGridTest");
    private static final Class<IllegalArgumentException> ARGUMENT = IllegalArgumentException.class;
    private static final Class<IndexOutOfBoundsException> INDEX = IndexOutOfBoundsException.class;
    private static final Class<IllegalStateException> STATE = IllegalStateException.class;
    private static final Class<NoSuchElementException> NO_SUCH = NoSuchElementException.class;
    private static final String NO_CELL = "Throws IndexOutOfBoundsException if there is no such cell";
    private static final int[] NO_SIDES = {0, 6, -1, 7, Integer.MIN_VALUE, Integer.MAX_VALUE};

    private EdgeGridTest() {
    }

    public static void main(String[] arguments) {
        newObject();
        newObjectHoldsNothing();
        numberedFromZero();
        resizeRows();
        resizeColumns();
        resizeBothNumbers();
        resizeToSameSize();
        resizeMakesAllDark();
        resizeCountsCells();
        recordBeginsAnewWithSize();
        setPatternTaken();
        setPatternRefused();
        recordBeginsAnewWithPattern();
        setPatternKeeps();
        setLightBefore();
        setLightInRecord();
        setLightNoCell();
        pressCounts();
        pressTwice();
        pressNoCell();
        pressTogglesThePattern();
        cellsOutsideAreLeftOut();
        rowCount();
        columnCount();
        pattern();
        isLitNoCell();
        isLitByPressesIsTheSame();
        isLitByPressesNoCell();
        litCount();
        litInRow();
        litInRowNoRow();
        litInColumn();
        litInColumnNoColumn();
        pressesOf();
        pressesOfNoCell();
        reachOf();
        reachOfNoCell();
        CHECK.end();
    }

    private static void newObject() {
        CHECK.sentence(1, "Creates a dark grid with 3 rows and 3 columns, pattern + and a dark goal.");
        GlowwormGrid grid = new GlowwormGrid();
        CHECK.same("rows", grid.rowCount(), 3);
        CHECK.same("columns", grid.columnCount(), 3);
        CHECK.same("pattern", grid.pattern(), '+');
        CHECK.same("lit", grid.litCount(), 0);
        CHECK.same("goals", Look.goals(grid), ".../.../...");
        CHECK.no("the last cell is there", grid.isLit(2, 2));
        CHECK.refused("no fourth row", INDEX, GlowwormGrid::new, fresh -> fresh.isLit(3, 0));
        CHECK.refused("no fourth column", INDEX, GlowwormGrid::new, fresh -> fresh.isLit(0, 3));
    }

    private static void newObjectHoldsNothing() {
        CHECK.sentence(1, "Creates a dark grid with 3 rows and 3 columns, pattern + and a dark goal.");
        GlowwormGrid grid = new GlowwormGrid();
        CHECK.same("glowworms", grid.wormCount(), 0);
        CHECK.same("steps", grid.stepCount(), 0);
        CHECK.same("presses", Look.presses(grid), "000/000/000");
        CHECK.same("text", grid.type('s'), 1);
        CHECK.refused("no line", INDEX, GlowwormGrid::new, fresh -> fresh.lineAt(0));
        CHECK.refused("no error position", NO_SUCH, GlowwormGrid::new, GlowwormGrid::errorPosition);
        CHECK.refused("no failed command", NO_SUCH, GlowwormGrid::new, GlowwormGrid::failedCommand);
        CHECK.refused("nothing to undo", STATE, GlowwormGrid::new, GlowwormGrid::undo);
        CHECK.refused("no snapshot", STATE, GlowwormGrid::new, GlowwormGrid::restore);
    }

    private static void numberedFromZero() {
        CHECK.sentence(5, "The grid has 1 to 5 rows and 1 to 5 columns, numbered from 0.");
        for (int rows = 1; rows <= 5; rows++) {
            for (int columns = 1; columns <= 5; columns++) {
                GlowwormGrid grid = Make.grid(rows, columns, 's');
                CHECK.same("first cell", grid.press(0, 0), 1);
                CHECK.same("last cell", grid.press(rows - 1, columns - 1), rows * columns == 1 ? 0 : 2);
            }
        }
    }

    private static void resizeRows() {
        CHECK.sentence(2, "rows: the number of rows, 1 to 5");
        CHECK.same("1 row", new GlowwormGrid().resize(1, 3), 3);
        CHECK.same("5 rows", new GlowwormGrid().resize(5, 3), 15);
        for (int rows : NO_SIDES) {
            CHECK.refused(rows + " rows, 1 column", ARGUMENT, EdgeGridTest::busy, grid -> grid.resize(rows, 1));
            CHECK.refused(rows + " rows, 5 columns", ARGUMENT, EdgeGridTest::busy, grid -> grid.resize(rows, 5));
        }
    }

    private static void resizeColumns() {
        CHECK.sentence(2, "columns: the number of columns, 1 to 5");
        CHECK.same("1 column", new GlowwormGrid().resize(3, 1), 3);
        CHECK.same("5 columns", new GlowwormGrid().resize(3, 5), 15);
        for (int columns : NO_SIDES) {
            CHECK.refused("1 row, " + columns + " columns", ARGUMENT, EdgeGridTest::busy,
                    grid -> grid.resize(1, columns));
            CHECK.refused("5 rows, " + columns + " columns", ARGUMENT, EdgeGridTest::busy,
                    grid -> grid.resize(5, columns));
        }
    }

    private static void resizeBothNumbers() {
        CHECK.sentence(2, "Throws IllegalArgumentException if a number is out of range");
        CHECK.same("the smallest", new GlowwormGrid().resize(1, 1), 1);
        CHECK.same("the largest", new GlowwormGrid().resize(5, 5), 25);
        for (int rows : NO_SIDES) {
            for (int columns : NO_SIDES) {
                CHECK.refused(rows + " rows, " + columns + " columns", ARGUMENT, EdgeGridTest::busy,
                        grid -> grid.resize(rows, columns));
            }
        }
    }

    private static void resizeToSameSize() {
        CHECK.sentence(2, "Gives the grid another size, also if it is the same as before.");
        GlowwormGrid grid = Make.busy(2, 3, 'x');
        CHECK.same("cells", grid.resize(2, 3), 6);
        CHECK.same("state", Look.at(grid), "2x3x lit .../... goals .../... presses 000/000 worms  steps 1");
        CHECK.same("it is a modification", grid.undo(), 7);
        CHECK.same("undone", Look.at(grid), Look.at(Make.busy(2, 3, 'x')));
    }

    private static void resizeMakesAllDark() {
        CHECK.sentence(2, "All lights and goals are dark then, and there are no glowworms.");
        int[][] sizes = {{5, 5}, {1, 1}, {5, 1}, {1, 5}, {4, 5}, {5, 4}};
        for (int[] size : sizes) {
            GlowwormGrid grid = crowded();
            grid.resize(size[0], size[1]);
            CHECK.same("lights", grid.litCount(), 0);
            CHECK.same("differences", grid.differenceCount(), 0);
            CHECK.same("glowworms", grid.wormCount(), 0);
            grid.resize(5, 5);
            CHECK.same("nothing came back", Look.at(grid).replaceAll("[./0]", ""),
                    "5x5s lit  goals  presses  worms  steps ");
            CHECK.same("a first glowworm", grid.addWorm(0, 0, 'n'), 0);
        }
    }

    /** All lights and all goals are lit, and there are as many glowworms as there can be. */
    private static GlowwormGrid crowded() {
        GlowwormGrid grid = Make.full(5, 5, 's');
        for (int cell = 0; cell < 25; cell++) {
            grid.toggleGoal(cell / 5, cell % 5);
        }
        for (int worm = 0; worm < 4; worm++) {
            grid.addWorm(4, worm, 'n');
        }
        return grid;
    }

    private static void resizeCountsCells() {
        CHECK.sentence(2, "Returns the number of cells.");
        GlowwormGrid grid = new GlowwormGrid();
        CHECK.same("1x1", grid.resize(1, 1), 1);
        CHECK.same("1x5", grid.resize(1, 5), 5);
        CHECK.same("5x1", grid.resize(5, 1), 5);
        CHECK.same("4x5", grid.resize(4, 5), 20);
        CHECK.same("5x4", grid.resize(5, 4), 20);
        CHECK.same("5x5", grid.resize(5, 5), 25);
    }

    private static void recordBeginsAnewWithSize() {
        CHECK.sentence(2, "The record begins anew when the grid gets another size or another pattern, "
                + "also if they are the same as before.");
        for (int columns = 2; columns <= 3; columns++) {
            GlowwormGrid grid = Make.busy(2, 3, '+');
            grid.resize(2, columns);
            CHECK.same("presses", grid.meanPresses(), 0.0);
            CHECK.same("lights of the record", Look.lightsByPresses(grid), columns == 2 ? "../.." : ".../...");
            grid.press(1, 1);
            CHECK.same("counted from 1 again", grid.pressesOf(1, 1), 1);
        }
        CHECK.refused("a refused size begins no record", ARGUMENT, EdgeGridTest::busy, grid -> grid.resize(2, 6));
    }

    private static void setPatternTaken() {
        CHECK.sentence(3, "pattern: the new pattern: +, x, o or s");
        for (char previous : "+xos".toCharArray()) {
            for (char next : "+xos".toCharArray()) {
                GlowwormGrid grid = Make.grid(5, 5, previous);
                CHECK.same("previous", grid.setPattern(next), previous);
                CHECK.same("new", grid.pattern(), next);
            }
        }
    }

    private static void setPatternRefused() {
        CHECK.sentence(3, "Throws IllegalArgumentException if there is no such pattern");
        for (int sign = 0; sign < 300; sign++) {
            char pattern = (char) sign;
            if ("+xos".indexOf(sign) < 0) {
                CHECK.refused("sign " + sign, ARGUMENT, EdgeGridTest::busy, grid -> grid.setPattern(pattern));
            }
        }
        for (char pattern : new char[] {'+' + 256, 's' + 256, 32767, 32768, 65535}) {
            CHECK.refused("sign " + (int) pattern, ARGUMENT, EdgeGridTest::busy, grid -> grid.setPattern(pattern));
        }
    }

    private static void recordBeginsAnewWithPattern() {
        CHECK.sentence(3, "The record begins anew when the grid gets another size or another pattern, "
                + "also if they are the same as before.");
        for (char pattern : new char[] {'+', 'x'}) {
            GlowwormGrid grid = Make.busy(2, 3, '+');
            String lights = Look.lights(grid);
            grid.setPattern(pattern);
            CHECK.same("presses", grid.meanPresses(), 0.0);
            CHECK.same("lights of the record", Look.lightsByPresses(grid), lights);
            grid.press(1, 1);
            CHECK.same("counted from 1 again", grid.pressesOf(1, 1), 1);
            CHECK.same("lights by presses", Look.lightsByPresses(grid), Look.lights(grid));
        }
        CHECK.refused("a refused pattern begins no record", ARGUMENT, EdgeGridTest::busy,
                grid -> grid.setPattern('*'));
    }

    private static void setPatternKeeps() {
        CHECK.sentence(3, "Setting the pattern keeps the lights, the goals and the glowworms.");
        for (char pattern : "+xos".toCharArray()) {
            GlowwormGrid grid = crowded();
            grid.toggleGoal(4, 4);
            String before = Look.at(grid);
            grid.setPattern(pattern);
            CHECK.same("full, to " + pattern, Look.at(grid), before.replace("5x5s", "5x5" + pattern));
        }
        GlowwormGrid empty = new GlowwormGrid();
        empty.setPattern('o');
        CHECK.same("empty", Look.at(empty),
                "3x3o lit .../.../... goals .../.../... presses 000/000/000 worms  steps 0");
    }

    private static void setLightBefore() {
        CHECK.sentence(4, "Returns whether it was lit before.");
        GlowwormGrid grid = Make.grid(5, 5, '+');
        CHECK.no("dark to dark", grid.setLight(4, 4, false));
        CHECK.no("still dark", grid.isLit(4, 4));
        CHECK.no("dark to lit", grid.setLight(4, 4, true));
        CHECK.yes("lit to lit", grid.setLight(4, 4, true));
        CHECK.yes("still lit", grid.isLit(4, 4));
        CHECK.yes("lit to dark", grid.setLight(4, 4, false));
        CHECK.no("dark again", grid.isLit(4, 4));
        CHECK.same("no other light", grid.litCount(), 0);
    }

    private static void setLightInRecord() {
        CHECK.sentence(4, "When a single light is set, this counts as if it had been like that when the record "
                + "began, apart from the recorded presses.");
        for (int presses = 0; presses <= 3; presses++) {
            for (int lights = 0; lights < 4; lights++) {
                GlowwormGrid grid = Make.grid(1, 2, '+');
                grid.setLight(0, 0, lights / 2 == 1);
                for (int press = 0; press < presses; press++) {
                    grid.press(0, 1);
                }
                boolean isLit = lights % 2 == 1;
                grid.setLight(0, 0, isLit);
                CHECK.same("light", grid.isLit(0, 0) ? 1 : 0, isLit ? 1 : 0);
                CHECK.same("by presses", grid.isLitByPresses(0, 0) ? 1 : 0, isLit ? 1 : 0);
                CHECK.same("presses kept", Look.presses(grid), "0" + presses);
                grid.press(0, 0);
                CHECK.same("pressed then, by presses", grid.isLitByPresses(0, 0) ? 1 : 0, isLit ? 0 : 1);
            }
        }
    }

    private static void setLightNoCell() {
        CHECK.sentence(4, NO_CELL);
        GlowwormGrid grid = Make.grid(5, 5, '+');
        grid.setLight(0, 0, true);
        grid.setLight(0, 4, true);
        grid.setLight(4, 0, true);
        grid.setLight(4, 4, true);
        CHECK.same("corners", Look.lights(grid), "*...*/...../...../...../*...*");
        Outside.cellsAreRefused(CHECK, (busy, row, column) -> busy.setLight(row, column, true));
        Outside.cellsAreRefused(CHECK, (busy, row, column) -> busy.setLight(row, column, false));
    }

    private static void pressCounts() {
        CHECK.sentence(5, "Returns the number of lights that are lit afterwards.");
        GlowwormGrid single = Make.grid(1, 1, '+');
        CHECK.same("the only one", single.press(0, 0), 1);
        CHECK.same("none", single.press(0, 0), 0);
        GlowwormGrid grid = Make.full(5, 5, 's');
        CHECK.same("all but one", grid.press(4, 4), 24);
        CHECK.same("all", grid.press(4, 4), 25);
    }

    private static void pressTwice() {
        CHECK.sentence(5, "A light that is toggled twice is as it was before.");
        for (char pattern : "+xos".toCharArray()) {
            GlowwormGrid grid = Make.busy(5, 5, pattern);
            String before = Look.lights(grid);
            for (int cell = 0; cell < 25; cell++) {
                grid.press(cell / 5, cell % 5);
                CHECK.no("once " + pattern, Look.lights(grid).equals(before));
                grid.press(cell / 5, cell % 5);
                CHECK.same("twice " + pattern, Look.lights(grid), before);
                grid = Make.busy(5, 5, pattern);
            }
        }
    }

    private static void pressNoCell() {
        CHECK.sentence(5, NO_CELL);
        CHECK.same("first cell", Make.grid(5, 5, '+').press(0, 0), 3);
        CHECK.same("last of the first row", Make.grid(5, 5, '+').press(0, 4), 3);
        CHECK.same("first of the last row", Make.grid(5, 5, '+').press(4, 0), 3);
        CHECK.same("last cell", Make.grid(5, 5, '+').press(4, 4), 3);
        CHECK.same("only cell", Make.grid(1, 1, 'o').press(0, 0), 1);
        Outside.cellsAreRefused(CHECK, GlowwormGrid::press);
    }

    private static void pressTogglesThePattern() {
        CHECK.sentence(5, "A press of a cell toggles the lights of all cells in its pattern: for + the cell itself and "
                + "the cells next to it in its row and its column, for x the cell itself and the cells next to it "
                + "diagonally, for o the cell itself and all cells next to it in any of these ways, and for s the cell "
                + "itself alone.");
        pressed('+', 2, 2, "...../..*../.***./..*../.....");
        pressed('x', 2, 2, "...../.*.*./..*../.*.*./.....");
        pressed('o', 2, 2, "...../.***./.***./.***./.....");
        pressed('s', 2, 2, "...../...../..*../...../.....");
        pressed('+', 1, 1, ".*.../***../.*.../...../.....");
        pressed('x', 3, 3, "...../...../..*.*/...*./..*.*");
        pressed('o', 1, 3, "..***/..***/..***/...../.....");
        GlowwormGrid full = Make.full(5, 5, 'o');
        CHECK.same("lit ones too", full.press(2, 2), 16);
        CHECK.same("lit ones too", Look.lights(full), "*****/*...*/*...*/*...*/*****");
    }

    private static void cellsOutsideAreLeftOut() {
        CHECK.sentence(5, "Cells outside the grid are left out.");
        pressed('+', 0, 2, ".***./..*../...../...../.....");
        pressed('+', 2, 0, "...../*..../**.../*..../.....");
        pressed('+', 2, 4, "...../....*/...**/....*/.....");
        pressed('+', 4, 2, "...../...../...../..*../.***.");
        pressed('x', 0, 4, "....*/...*./...../...../.....");
        pressed('x', 2, 0, "...../.*.../*..../.*.../.....");
        pressed('x', 4, 4, "...../...../...../...*./....*");
        pressed('o', 0, 0, "**.../**.../...../...../.....");
        pressed('o', 2, 4, "...../...**/...**/...**/.....");
        pressed('o', 4, 0, "...../...../...../**.../**...");
        pressed('s', 0, 4, "....*/...../...../...../.....");
        GlowwormGrid grid = Make.full(5, 5, 'o');
        grid.resize(2, 2);
        CHECK.same("after a larger size", grid.press(1, 1), 4);
        grid.resize(3, 3);
        CHECK.same("none was toggled outside", grid.litCount(), 0);
    }

    private static void pressed(char pattern, int row, int column, String due) {
        GlowwormGrid grid = Make.grid(5, 5, pattern);
        grid.press(row, column);
        CHECK.same(pattern + " " + row + " " + column, Look.lights(grid), due);
    }

    private static void rowCount() {
        CHECK.sentence(6, "Returns the number of rows.");
        CHECK.same("smallest", Make.grid(1, 5, '+').rowCount(), 1);
        CHECK.same("largest", Make.grid(5, 1, '+').rowCount(), 5);
        GlowwormGrid grid = Make.grid(5, 1, '+');
        Whole.outcome(grid, refused -> refused.resize(6, 1));
        CHECK.same("after a refused size", grid.rowCount(), 5);
    }

    private static void columnCount() {
        CHECK.sentence(7, "Returns the number of columns.");
        CHECK.same("smallest", Make.grid(5, 1, '+').columnCount(), 1);
        CHECK.same("largest", Make.grid(1, 5, '+').columnCount(), 5);
        GlowwormGrid grid = Make.grid(1, 5, '+');
        Whole.outcome(grid, refused -> refused.resize(1, 6));
        CHECK.same("after a refused size", grid.columnCount(), 5);
    }

    private static void pattern() {
        CHECK.sentence(8, "Returns +, x, o or s.");
        GlowwormGrid grid = new GlowwormGrid();
        CHECK.same("at first", grid.pattern(), '+');
        for (char pattern : "xos+".toCharArray()) {
            grid.setPattern(pattern);
            CHECK.same("set", grid.pattern(), pattern);
            Whole.outcome(grid, refused -> refused.setPattern('n'));
            CHECK.same("after a refused pattern", grid.pattern(), pattern);
        }
    }

    private static void isLitNoCell() {
        CHECK.sentence(9, NO_CELL);
        GlowwormGrid grid = Make.lit('+', "*.", "..", ".*");
        CHECK.yes("first cell", grid.isLit(0, 0));
        CHECK.no("last of the first row", grid.isLit(0, 1));
        CHECK.no("first of the last row", grid.isLit(2, 0));
        CHECK.yes("last cell", grid.isLit(2, 1));
        Outside.cellsAreRefused(CHECK, GlowwormGrid::isLit);
    }

    private static void isLitByPressesIsTheSame() {
        CHECK.sentence(10, "Returns the same as isLit, from the lights that were lit when the record began and from "
                + "the recorded presses.");
        for (char pattern : "+xos".toCharArray()) {
            GlowwormGrid grid = Make.full(5, 5, pattern);
            CHECK.same("no presses " + pattern, Look.lightsByPresses(grid), "*****/*****/*****/*****/*****");
            for (int cell = 0; cell < 25; cell += 4) {
                grid.press(cell / 5, cell % 5);
                CHECK.same("pressed " + pattern, Look.lightsByPresses(grid), Look.lights(grid));
            }
        }
        GlowwormGrid many = Make.grid(1, 1, '+');
        for (int press = 1; press <= 300; press++) {
            many.press(0, 0);
        }
        CHECK.no("300 presses", many.isLitByPresses(0, 0));
        many.press(0, 0);
        CHECK.yes("301 presses", many.isLitByPresses(0, 0));
    }

    private static void isLitByPressesNoCell() {
        CHECK.sentence(10, NO_CELL);
        GlowwormGrid grid = Make.lit('+', "*.", "..", ".*");
        CHECK.yes("first cell", grid.isLitByPresses(0, 0));
        CHECK.no("last of the first row", grid.isLitByPresses(0, 1));
        CHECK.no("first of the last row", grid.isLitByPresses(2, 0));
        CHECK.yes("last cell", grid.isLitByPresses(2, 1));
        Outside.cellsAreRefused(CHECK, GlowwormGrid::isLitByPresses);
    }

    private static void litCount() {
        CHECK.sentence(11, "Returns the number of lights that are lit.");
        CHECK.same("empty", Make.grid(5, 5, '+').litCount(), 0);
        CHECK.same("full", Make.full(5, 5, '+').litCount(), 25);
        CHECK.same("the smallest, empty", Make.grid(1, 1, '+').litCount(), 0);
        CHECK.same("the smallest, full", Make.full(1, 1, '+').litCount(), 1);
    }

    private static void litInRow() {
        CHECK.sentence(12, "Returns the number of lights that are lit in a row.");
        for (int row = 0; row < 5; row++) {
            CHECK.same("full row", Make.full(5, 5, '+').litInRow(row), 5);
            GlowwormGrid grid = Make.full(5, 5, '+');
            for (int column = 0; column < 5; column++) {
                grid.setLight(row, column, false);
            }
            CHECK.same("empty among full ones", grid.litInRow(row), 0);
        }
        CHECK.same("the smallest", Make.full(1, 1, '+').litInRow(0), 1);
    }

    private static void litInRowNoRow() {
        CHECK.sentence(12, "Throws IndexOutOfBoundsException if there is no such row");
        GlowwormGrid grid = Make.lit('+', "**.", "...", "..*");
        CHECK.same("first", grid.litInRow(0), 2);
        CHECK.same("last", grid.litInRow(2), 1);
        Outside.rowsAreRefused(CHECK, GlowwormGrid::litInRow);
    }

    private static void litInColumn() {
        CHECK.sentence(13, "Returns the number of lights that are lit in a column.");
        for (int column = 0; column < 5; column++) {
            CHECK.same("full column", Make.full(5, 5, '+').litInColumn(column), 5);
            GlowwormGrid grid = Make.full(5, 5, '+');
            for (int row = 0; row < 5; row++) {
                grid.setLight(row, column, false);
            }
            CHECK.same("empty among full ones", grid.litInColumn(column), 0);
        }
        CHECK.same("the smallest", Make.full(1, 1, '+').litInColumn(0), 1);
    }

    private static void litInColumnNoColumn() {
        CHECK.sentence(13, "Throws IndexOutOfBoundsException if there is no such column");
        GlowwormGrid grid = Make.lit('+', "*..", "*..", "..*");
        CHECK.same("first", grid.litInColumn(0), 2);
        CHECK.same("last", grid.litInColumn(2), 1);
        Outside.columnsAreRefused(CHECK, GlowwormGrid::litInColumn);
    }

    private static void pressesOf() {
        CHECK.sentence(14, "Returns how often a cell was pressed since the record began.");
        GlowwormGrid grid = Make.grid(5, 5, '+');
        CHECK.same("never", grid.pressesOf(4, 4), 0);
        for (int press = 1; press <= 300; press++) {
            grid.press(4, 4);
        }
        CHECK.same("300 times", grid.pressesOf(4, 4), 300);
        CHECK.same("the one before it", grid.pressesOf(4, 3), 0);
        CHECK.same("the one above it", grid.pressesOf(3, 4), 0);
        grid.setPattern('+');
        CHECK.same("of a new record", grid.pressesOf(4, 4), 0);
    }

    private static void pressesOfNoCell() {
        CHECK.sentence(14, NO_CELL);
        GlowwormGrid grid = Make.grid(5, 5, '+');
        grid.press(0, 4);
        grid.press(4, 0);
        grid.press(4, 0);
        CHECK.same("first cell", grid.pressesOf(0, 0), 0);
        CHECK.same("last of the first row", grid.pressesOf(0, 4), 1);
        CHECK.same("first of the last row", grid.pressesOf(4, 0), 2);
        CHECK.same("last cell", grid.pressesOf(4, 4), 0);
        Outside.cellsAreRefused(CHECK, GlowwormGrid::pressesOf);
    }

    private static void reachOf() {
        CHECK.sentence(15, "Returns the number of lights that a press of a cell toggles.");
        for (char pattern : "+xos".toCharArray()) {
            CHECK.same("1x1 " + pattern, Look.reaches(Make.grid(1, 1, pattern)), "1");
        }
        CHECK.same("5x5 +", Look.reaches(Make.grid(5, 5, '+')), "34443/45554/45554/45554/34443");
        CHECK.same("5x5 x", Look.reaches(Make.grid(5, 5, 'x')), "23332/35553/35553/35553/23332");
        CHECK.same("5x5 o", Look.reaches(Make.grid(5, 5, 'o')), "46664/69996/69996/69996/46664");
        CHECK.same("5x5 s", Look.reaches(Make.grid(5, 5, 's')), "11111/11111/11111/11111/11111");
        CHECK.same("1x5 +", Look.reaches(Make.grid(1, 5, '+')), "23332");
        CHECK.same("1x5 o", Look.reaches(Make.grid(1, 5, 'o')), "23332");
        CHECK.same("5x1 x", Look.reaches(Make.grid(5, 1, 'x')), "1/1/1/1/1");
        CHECK.same("lit or dark", Look.reaches(Make.full(2, 2, 'x')), "22/22");
    }

    private static void reachOfNoCell() {
        CHECK.sentence(15, NO_CELL);
        GlowwormGrid grid = Make.grid(2, 5, '+');
        CHECK.same("first cell", grid.reachOf(0, 0), 3);
        CHECK.same("last cell", grid.reachOf(1, 4), 3);
        Outside.cellsAreRefused(CHECK, GlowwormGrid::reachOf);
    }

    private static GlowwormGrid busy() {
        return Make.busyTyping(2, 3, '+');
    }
}
