/** Promises 47 to 49: undo and snapshots. */
final class UndoTest {
    private static final Check CHECK = new Check("UndoTest");
    private static final Class<IllegalStateException> STATE = IllegalStateException.class;

    private UndoTest() {
    }

    public static void main(String[] arguments) {
        nothingToUndo();
        eachModification();
        callsThatAreNoModification();
        atMostEight();
        undoAndGoOn();
        changeNothing();
        record();
        noSnapshot();
        saveAndRestore();
        restoreForgetsThePast();
        snapshotStays();
        CHECK.end();
    }

    private static GlowwormGrid busyGrid() {
        GlowwormGrid grid = Make.lit('+', "*..", "..*", ".*.");
        grid.toggleGoal(0, 2);
        grid.press(1, 1);
        grid.addWorm(1, 0, 'e');
        grid.addWorm(2, 2, 'n');
        grid.step();
        return grid;
    }

    private static void nothingToUndo() {
        GlowwormGrid grid = new GlowwormGrid();
        CHECK.refused("47: none", STATE, grid, grid::undo);
        grid.press(0, 0);
        grid.undo();
        CHECK.refused("47: none again", STATE, grid, grid::undo);
    }

    private static void eachModification() {
        undone("resize", grid -> grid.resize(2, 5));
        undone("setPattern", grid -> grid.setPattern('x'));
        undone("setLight", grid -> grid.setLight(2, 2, !grid.isLit(2, 2)));
        undone("press", grid -> grid.press(2, 1));
        undone("toggleGoal", grid -> grid.toggleGoal(2, 2));
        undone("solve", grid -> grid.solve());
        undone("chase", grid -> grid.chase());
        undone("addWorm", grid -> grid.addWorm(0, 0, 's'));
        undone("removeWorm", grid -> grid.removeWorm(0));
        undone("step", grid -> grid.step());
        undone("execute", grid -> Make.execute(grid, "press 0 0;goal 1 1;size 1 1;step"));
    }

    private interface Change {
        void of(GlowwormGrid grid);
    }

    private static void undone(String what, Change change) {
        GlowwormGrid grid = busyGrid();
        grid.save();
        grid.restore();
        String before = Look.at(grid);
        change.of(grid);
        CHECK.no("47: changed by " + what, Look.at(grid).equals(before));
        CHECK.same("47: only " + what, grid.undo(), 0);
        CHECK.same("47: as before " + what, Look.at(grid), before);
        CHECK.same("47: record as before " + what, Look.lightsByPresses(grid), Look.lights(grid));
    }

    private static void callsThatAreNoModification() {
        GlowwormGrid grid = new GlowwormGrid();
        grid.press(1, 1);
        grid.save();
        grid.type('x');
        grid.writeRow(0);
        grid.fewestPresses();
        grid.isConsistent();
        Look.at(grid);
        CHECK.refused("44: malformed", IllegalArgumentException.class, grid, grid::execute);
        Make.type(grid, "press 0 0;press 7 7");
        CHECK.refused("44: fails", STATE, grid, grid::execute);
        CHECK.refused("5: fails", IndexOutOfBoundsException.class, grid, () -> grid.press(3, 3));
        CHECK.refused("30: fails", IndexOutOfBoundsException.class, grid, () -> grid.removeWorm(0));
        CHECK.same("47: the press alone", grid.undo(), 0);
        CHECK.same("47: undone", grid.litCount(), 0);
    }

    private static void atMostEight() {
        GlowwormGrid grid = Make.grid(1, 1, 's');
        for (int count = 0; count < 20; count++) {
            grid.press(0, 0);
        }
        for (int left = 7; left >= 0; left--) {
            CHECK.same("47: left", grid.undo(), left);
            CHECK.same("47: presses", grid.pressesOf(0, 0), 12 + left);
        }
        CHECK.refused("47: a ninth", STATE, grid, grid::undo);
        for (int modifications = 7; modifications <= 9; modifications++) {
            GlowwormGrid fresh = new GlowwormGrid();
            for (int count = 0; count < modifications; count++) {
                fresh.step();
            }
            CHECK.same("47: of " + modifications, fresh.undo(), Math.min(modifications, 8) - 1);
        }
    }

    private static void undoAndGoOn() {
        GlowwormGrid grid = Make.grid(1, 5, 's');
        grid.press(0, 0);
        grid.press(0, 1);
        grid.press(0, 2);
        grid.undo();
        grid.undo();
        grid.press(0, 3);
        CHECK.same("47: went on", Look.presses(grid), "10010");
        CHECK.same("47: the new one", grid.undo(), 3);
        CHECK.same("47: the new one", Look.presses(grid), "10000");
        CHECK.same("47: the old one", grid.undo(), 2);
        CHECK.same("47: the old one", Look.presses(grid), "00000");
        CHECK.same("47: the size", grid.undo(), 1);
        CHECK.same("47: the size", Look.presses(grid), "000/000/000");
        CHECK.same("47: the pattern", grid.undo(), 0);
        CHECK.same("47: the pattern", grid.pattern(), '+');
    }

    private static void changeNothing() {
        GlowwormGrid grid = new GlowwormGrid();
        grid.solve();
        grid.chase();
        grid.setLight(0, 0, false);
        grid.setPattern('+');
        grid.resize(3, 3);
        CHECK.same("47: calls that changed nothing count", grid.undo(), 4);
    }

    private static void record() {
        GlowwormGrid grid = Make.lit('+', "*..", "...");
        grid.press(0, 0);
        grid.setLight(0, 1, false);
        grid.setPattern('o');
        grid.undo();
        CHECK.same("47: presses are back", Look.presses(grid), "100/000");
        CHECK.same("47: and the record's lights", Look.lightsByPresses(grid), ".../*..");
        grid.undo();
        CHECK.same("47: before setLight", Look.lightsByPresses(grid), ".*./*..");
    }

    private static void noSnapshot() {
        GlowwormGrid grid = new GlowwormGrid();
        grid.press(0, 0);
        CHECK.refused("49: no snapshot", STATE, grid, grid::restore);
        CHECK.same("49: the past is kept", grid.undo(), 0);
    }

    private static void saveAndRestore() {
        GlowwormGrid grid = busyGrid();
        String saved = Look.at(grid);
        String byPresses = Look.lightsByPresses(grid);
        CHECK.same("48: cells", grid.save(), 9);
        CHECK.same("48: state as before", Look.at(grid), saved);
        grid.resize(2, 5);
        grid.setPattern('s');
        grid.addWorm(1, 4, 'w');
        grid.step();
        CHECK.same("49: the snapshot's cells", grid.restore(), 9);
        CHECK.same("49: state", Look.at(grid), saved);
        CHECK.same("49: record", Look.lightsByPresses(grid), byPresses);
        grid.press(0, 0);
        grid.removeWorm(1);
        CHECK.same("49: kept", grid.restore(), 9);
        CHECK.same("49: state again", Look.at(grid), saved);
        grid.resize(1, 4);
        CHECK.same("48: another", grid.save(), 4);
        grid.resize(5, 5);
        CHECK.same("49: the later one", grid.restore(), 4);
        CHECK.same("49: the later one", Look.lights(grid), "....");
    }

    private static void restoreForgetsThePast() {
        GlowwormGrid grid = new GlowwormGrid();
        grid.press(0, 0);
        grid.save();
        grid.press(1, 1);
        grid.restore();
        CHECK.refused("49: nothing can be undone", STATE, grid, grid::undo);
        grid.press(2, 2);
        CHECK.same("49: what came later can", grid.undo(), 0);
        CHECK.same("49: to the snapshot", Look.presses(grid), "100/000/000");
        CHECK.refused("49: and no further", STATE, grid, grid::undo);
    }

    private static void snapshotStays() {
        GlowwormGrid grid = new GlowwormGrid();
        grid.press(0, 0);
        grid.save();
        CHECK.same("48: save is no modification", grid.undo(), 0);
        Make.execute(grid, "size 1 1;press 0 0");
        grid.undo();
        CHECK.same("49: undo keeps the snapshot", grid.restore(), 9);
        CHECK.same("49: undo keeps the snapshot", Look.presses(grid), "100/000/000");
    }
}
