import java.util.ArrayList;
import java.util.List;

/** Places that are not there: the nearest ones on each side, and the farthest. */
final class Outside {
    private static final int[][] SIZES = {{1, 1}, {2, 5}, {5, 2}, {5, 5}};
    private static final int[] FAR = {Integer.MIN_VALUE, Integer.MAX_VALUE};
    private static final Class<IndexOutOfBoundsException> INDEX = IndexOutOfBoundsException.class;

    private Outside() {
    }

    interface CellCall {
        void on(GlowwormGrid grid, int row, int column);
    }

    interface IndexCall {
        void on(GlowwormGrid grid, int index);
    }

    static void cellsAreRefused(Check check, CellCall call) {
        for (int[] size : SIZES) {
            for (int[] cell : cellsAround(size[0], size[1])) {
                check.refused("cell " + cell[0] + " " + cell[1] + " of " + size[0] + "x" + size[1], INDEX,
                        () -> Make.busyTyping(size[0], size[1], '+'), grid -> call.on(grid, cell[0], cell[1]));
            }
        }
    }

    /** Where the number of rows is 5, that of columns is less, so that neither passes for the other. */
    static void rowsAreRefused(Check check, IndexCall call) {
        for (int rows = 1; rows <= 5; rows++) {
            for (int row : new int[] {-1, rows, rows + 1, FAR[0], FAR[1]}) {
                int[] size = {rows, 6 - rows};
                check.refused("row " + row + " of " + rows, INDEX, () -> Make.busyTyping(size[0], size[1], '+'),
                        grid -> call.on(grid, row));
            }
        }
    }

    static void columnsAreRefused(Check check, IndexCall call) {
        for (int columns = 1; columns <= 5; columns++) {
            for (int column : new int[] {-1, columns, columns + 1, FAR[0], FAR[1]}) {
                int[] size = {6 - columns, columns};
                check.refused("column " + column + " of " + columns, INDEX,
                        () -> Make.busyTyping(size[0], size[1], '+'), grid -> call.on(grid, column));
            }
        }
    }

    static void wormsAreRefused(Check check, IndexCall call) {
        for (int worms = 0; worms <= 4; worms++) {
            int count = worms;
            for (int worm : new int[] {-1, worms, worms + 1, 4, FAR[0], FAR[1]}) {
                check.refused("glowworm " + worm + " of " + worms, INDEX, () -> Make.busyWithWorms(count),
                        grid -> call.on(grid, worm));
            }
        }
    }

    private static List<int[]> cellsAround(int rows, int columns) {
        List<int[]> cells = new ArrayList<>();
        for (int row = -1; row <= rows; row++) {
            cells.add(new int[] {row, -1});
            cells.add(new int[] {row, columns});
        }
        for (int column = 0; column < columns; column++) {
            cells.add(new int[] {-1, column});
            cells.add(new int[] {rows, column});
        }
        for (int far : FAR) {
            cells.add(new int[] {far, 0});
            cells.add(new int[] {0, far});
        }
        return cells;
    }
}
