/** Makes grids for the tests. */
final class Make {
    private Make() {
    }

    static GlowwormGrid grid(int rows, int columns, char pattern) {
        GlowwormGrid grid = new GlowwormGrid();
        grid.setPattern(pattern);
        grid.resize(rows, columns);
        return grid;
    }

    /** Lights like "*.." "..*", a text for each row. */
    static GlowwormGrid lit(char pattern, String... rows) {
        GlowwormGrid grid = grid(rows.length, rows[0].length(), pattern);
        for (int row = 0; row < rows.length; row++) {
            for (int column = 0; column < rows[row].length(); column++) {
                if (rows[row].charAt(column) == '*') {
                    grid.setLight(row, column, true);
                }
            }
        }
        return grid;
    }

    static void type(GlowwormGrid grid, String text) {
        for (int index = 0; index < text.length(); index++) {
            grid.type(text.charAt(index));
        }
    }

    static int execute(GlowwormGrid grid, String text) {
        type(grid, text);
        return grid.execute();
    }
}
