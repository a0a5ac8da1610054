/** Promises 38 to 42: lines, statistics and checks. */
final class LineTest {
    private static final Check CHECK = new Check("LineTest");
    private static final Class<IndexOutOfBoundsException> INDEX = IndexOutOfBoundsException.class;

    private LineTest() {
    }

    public static void main(String[] arguments) {
        writeRow();
        longestLine();
        lineAt();
        lineStays();
        wrongRows();
        means();
        consistency();
        CHECK.end();
    }

    private static void writeRow() {
        GlowwormGrid grid = Make.lit('+', "*..", "..*");
        grid.toggleGoal(0, 0);
        grid.toggleGoal(0, 1);
        CHECK.same("38: the document's example", grid.writeRow(0), 4);
        CHECK.same("38: the document's example", Look.line(grid, 4), "*.!.");
        CHECK.same("38: replaced", grid.writeRow(1), 4);
        CHECK.same("38: replaced", Look.line(grid, 4), "..*!");
    }

    private static void longestLine() {
        GlowwormGrid grid = Make.lit('+', "*****");
        CHECK.same("38: all differ", grid.writeRow(0), 10);
        CHECK.same("38: all differ", Look.line(grid, 10), "*!*!*!*!*!");
        GlowwormGrid small = new GlowwormGrid();
        small.resize(5, 1);
        CHECK.same("38: one column", small.writeRow(4), 1);
        CHECK.same("38: one column", Look.line(small, 1), ".");
    }

    private static void lineAt() {
        GlowwormGrid grid = new GlowwormGrid();
        CHECK.refused("39: empty at first", INDEX, grid, () -> grid.lineAt(0));
        CHECK.refused("39: before it", INDEX, grid, () -> grid.lineAt(-1));
        grid.resize(1, 5);
        grid.setLight(0, 4, true);
        grid.writeRow(0);
        CHECK.same("39: last", grid.lineAt(5), '!');
        for (int index : new int[] {-1, 6, 9, 10, 11, Integer.MIN_VALUE, Integer.MAX_VALUE}) {
            GlowwormGrid written = Make.lit('+', "....*");
            written.writeRow(0);
            CHECK.refused("39: " + index, INDEX, written, () -> written.lineAt(index));
        }
        grid.resize(1, 1);
        grid.writeRow(0);
        CHECK.refused("39: behind a shorter line", INDEX, grid, () -> grid.lineAt(1));
    }

    private static void lineStays() {
        GlowwormGrid grid = Make.lit('+', "*.");
        grid.writeRow(0);
        grid.save();
        grid.press(0, 0);
        CHECK.same("39: after a press", Look.line(grid, 3), "*!.");
        grid.undo();
        grid.resize(1, 1);
        CHECK.same("39: after undo and resize", Look.line(grid, 3), "*!.");
        grid.writeRow(0);
        grid.restore();
        CHECK.same("39: restore keeps the line", Look.line(grid, 1), ".");
        CHECK.refused("39: restore keeps its length", INDEX, grid, () -> grid.lineAt(1));
        CHECK.refused("38: no such row", INDEX, grid, () -> grid.writeRow(1));
        CHECK.same("38: a refused call keeps the line", Look.line(grid, 1), ".");
    }

    private static void wrongRows() {
        for (int row : new int[] {-1, 2, 3, 5, Integer.MIN_VALUE, Integer.MAX_VALUE}) {
            GlowwormGrid grid = Make.grid(2, 5, '+');
            CHECK.refused("38: " + row, INDEX, grid, () -> grid.writeRow(row));
        }
    }

    private static void means() {
        GlowwormGrid grid = new GlowwormGrid();
        CHECK.same("40: none", grid.meanPresses(), 0.0);
        CHECK.same("41: none", (double) grid.litShare(), 0.0);
        grid.press(0, 0);
        grid.press(0, 0);
        grid.press(1, 1);
        grid.press(2, 2);
        CHECK.same("40: four of nine", grid.meanPresses(), 4.0 / 9.0);
        grid.setLight(2, 2, false);
        CHECK.same("41: three of nine", (double) grid.litShare(), (double) (3.0f / 9.0f));
        grid.setPattern('x');
        CHECK.same("40: a new record", grid.meanPresses(), 0.0);
        grid.resize(1, 5);
        grid.press(0, 4);
        CHECK.same("40: one of five", grid.meanPresses(), 0.2);
        CHECK.same("41: one of five", (double) grid.litShare(), (double) 0.2f);
        grid = Make.lit('s', "**", "**");
        CHECK.same("41: all", (double) grid.litShare(), 1.0);
        grid.press(1, 1);
        CHECK.same("40: one of four", grid.meanPresses(), 0.25);
        CHECK.same("41: three of four", (double) grid.litShare(), 0.75);
    }

    private static void consistency() {
        for (char pattern : new char[] {'+', 'x', 'o', 's'}) {
            GlowwormGrid grid = Make.lit(pattern, "*....", "..*..", ".....", "....*");
            CHECK.yes("42: " + pattern, grid.isConsistent());
            grid.press(3, 4);
            grid.setLight(3, 3, false);
            grid.toggleGoal(1, 1);
            CHECK.yes("42: pressed " + pattern, grid.isConsistent());
            grid.addWorm(0, 0, 'e');
            grid.addWorm(0, 1, 'w');
            grid.addWorm(1, 0, 'n');
            for (int step = 0; step < 10; step++) {
                grid.step();
                CHECK.yes("42: stepped " + pattern, grid.isConsistent());
            }
            grid.undo();
            CHECK.yes("42: undone " + pattern, grid.isConsistent());
        }
    }
}
