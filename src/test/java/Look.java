import java.util.NoSuchElementException;

/** Reads a grid by its calls that change nothing. */
final class Look {
    private Look() {
    }

    /** The state: all that undo and restore bring back. */
    static String at(GlowwormGrid grid) {
        StringBuilder seen = new StringBuilder();
        seen.append(grid.rowCount()).append('x').append(grid.columnCount()).append(grid.pattern());
        seen.append(" lit ").append(lights(grid));
        seen.append(" goals ").append(goals(grid));
        seen.append(" presses ").append(presses(grid));
        seen.append(" worms ").append(worms(grid));
        seen.append(" steps ").append(grid.stepCount());
        return seen.toString();
    }

    static String lights(GlowwormGrid grid) {
        return cells(grid, (row, column) -> grid.isLit(row, column) ? "*" : ".");
    }

    static String lightsByPresses(GlowwormGrid grid) {
        return cells(grid, (row, column) -> grid.isLitByPresses(row, column) ? "*" : ".");
    }

    static String goals(GlowwormGrid grid) {
        return cells(grid, (row, column) -> grid.isGoalLit(row, column) ? "*" : ".");
    }

    static String presses(GlowwormGrid grid) {
        return cells(grid, (row, column) -> String.valueOf(grid.pressesOf(row, column)));
    }

    static String reaches(GlowwormGrid grid) {
        return cells(grid, (row, column) -> String.valueOf(grid.reachOf(row, column)));
    }

    static String quietCells(GlowwormGrid grid) {
        return cells(grid, (row, column) -> grid.isQuietCell(row, column) ? "*" : ".");
    }

    static String solution(GlowwormGrid grid) {
        return cells(grid, (row, column) -> grid.isInSolution(row, column) ? "*" : ".");
    }

    static String wormCells(GlowwormGrid grid) {
        return cells(grid, (row, column) -> wormIn(grid, row, column));
    }

    /** Each glowworm by its row, its column and its direction. */
    static String worms(GlowwormGrid grid) {
        StringBuilder seen = new StringBuilder();
        int worms = grid.wormCount();
        for (int worm = 0; worm < worms; worm++) {
            seen.append(worm == 0 ? "" : " ");
            seen.append(grid.rowOfWorm(worm)).append(grid.columnOfWorm(worm)).append(grid.directionOf(worm));
        }
        return seen.toString();
    }

    static String line(GlowwormGrid grid, int length) {
        StringBuilder seen = new StringBuilder();
        for (int index = 0; index < length; index++) {
            seen.append(grid.lineAt(index));
        }
        return seen.toString();
    }

    private static String wormIn(GlowwormGrid grid, int row, int column) {
        try {
            return String.valueOf(grid.wormIn(row, column));
        } catch (NoSuchElementException e) {
            return ".";
        }
    }

    private interface CellText {
        String of(int row, int column);
    }

    private static String cells(GlowwormGrid grid, CellText text) {
        StringBuilder seen = new StringBuilder();
        int rows = grid.rowCount();
        int columns = grid.columnCount();
        for (int row = 0; row < rows; row++) {
            seen.append(row == 0 ? "" : "/");
            for (int column = 0; column < columns; column++) {
                seen.append(text.of(row, column));
            }
        }
        return seen.toString();
    }
}
