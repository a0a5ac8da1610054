import java.lang.reflect.Field;

/** Changes what a grid holds behind its back, as no run of calls can make a grid that is not consistent. */
final class Damage {
    private Damage() {
    }

    /** The light of this cell is then as it was, but was the other way when the record began. */
    static void recordOf(GlowwormGrid grid, int cell) throws ReflectiveOperationException {
        Object board = held(grid, "board");
        Field lights = field(board, "litAtRecordStart");
        lights.setInt(board, lights.getInt(board) ^ 1 << cell);
    }

    static void moveWorm(GlowwormGrid grid, int worm, int toThatOf) throws ReflectiveOperationException {
        int[] cells = (int[]) held(held(held(grid, "board"), "worms"), "cells");
        cells[worm] = cells[toThatOf];
    }

    private static Object held(Object holder, String name) throws ReflectiveOperationException {
        return field(holder, name).get(holder);
    }

    private static Field field(Object holder, String name) throws ReflectiveOperationException {
        Field field = holder.getClass().getDeclaredField(name);
        field.setAccessible(true);
        return field;
    }
}
