/** Makes grids for the tests. */
final class Make {
    private Make() {
    }

    static GlowwormGrid grid(int rows, int columns, char pattern) {
        GlowwormGrid grid = new GlowwormGrid();
        grid.setPattern(pattern);
        grid.resize(rows, columns);
        return grid;
    }

    /** Lights like "*.." "..*", a text for each row. */
    static GlowwormGrid lit(char pattern, String... rows) {
        GlowwormGrid grid = grid(rows.length, rows[0].length(), pattern);
        for (int row = 0; row < rows.length; row++) {
            for (int column = 0; column < rows[row].length(); column++) {
                if (rows[row].charAt(column) == '*') {
                    grid.setLight(row, column, true);
                }
            }
        }
        return grid;
    }

    /** A full grid: all lights lit and all goals dark. */
    static GlowwormGrid full(int rows, int columns, char pattern) {
        GlowwormGrid grid = grid(rows, columns, pattern);
        for (int cell = 0; cell < rows * columns; cell++) {
            grid.setLight(cell / columns, cell % columns, true);
        }
        return grid;
    }

    /** A grid that holds some of everything, and a longer past than can be undone, but no text. */
    static GlowwormGrid busy(int rows, int columns, char pattern) {
        GlowwormGrid grid = new GlowwormGrid();
        grid.press(0, 2);
        grid.addWorm(2, 2, 'w');
        grid.save();
        attempt(grid, "stop");
        attempt(grid, "step;size 0 1");
        grid.setPattern(pattern);
        grid.resize(rows, columns);
        grid.addWorm(rows - 1, columns - 1, 'n');
        grid.setLight(0, 0, true);
        grid.toggleGoal(rows - 1, 0);
        grid.press(0, columns - 1);
        grid.step();
        grid.press(rows - 1, 0);
        grid.writeRow(0);
        return grid;
    }

    static GlowwormGrid busyTyping(int rows, int columns, char pattern) {
        GlowwormGrid grid = busy(rows, columns, pattern);
        type(grid, "goal 0 0;st");
        return grid;
    }

    /** The glowworms are in the first cells, in their order, and look up. */
    static GlowwormGrid busyWithWorms(int worms) {
        GlowwormGrid grid = busyTyping(2, 3, 'x');
        grid.removeWorm(0);
        for (int worm = 0; worm < worms; worm++) {
            grid.addWorm(worm / 3, worm % 3, 'n');
        }
        return grid;
    }

    private static void attempt(GlowwormGrid grid, String text) {
        try {
            execute(grid, text);
        } catch (IllegalArgumentException | IllegalStateException e) {
            // What is stored then is what the grid shall hold.
        }
    }

    static void type(GlowwormGrid grid, String text) {
        for (int index = 0; index < text.length(); index++) {
            grid.type(text.charAt(index));
        }
    }

    static int execute(GlowwormGrid grid, String text) {
        type(grid, text);
        return grid.execute();
    }
}
