import java.util.LinkedHashMap;
import java.util.Map;
import java.util.function.Consumer;

/** The boundary cases of promises 47 to 49, a test for each sentence: undo and snapshots. */
final class EdgeUndoTest {
    private static final Check CHECK = new Check("EdgeUndoTest");
    private static final Class<IllegalStateException> STATE = IllegalStateException.class;
    private static final String NOT_PART = "The text buffer, the error position, the index of the failed command and "
            + "the line are not part of the state that is undone, saved or restored.";

    private EdgeUndoTest() {
    }

    public static void main(String[] arguments) {
        undoNone();
        undoLastEight();
        undoCounts();
        undoEachKind();
        undoAllKinds();
        undoRefusedCalls();
        undoLookingCalls();
        undoChangesNothing();
        undoKeepsTheRest();
        saveCounts();
        saveReplaces();
        saveIsNoModification();
        saveKeepsTheRest();
        restoreNone();
        restoreKeepsSnapshot();
        restoreNothingToUndo();
        restoreCounts();
        restoreKeepsTheRest();
        lastCall();
        CHECK.end();
    }

    private static void undoNone() {
        CHECK.sentence(47, "Throws IllegalStateException if there is none");
        CHECK.refused("at first", STATE, GlowwormGrid::new, GlowwormGrid::undo);
        CHECK.same("one", stepped(1).undo(), 0);
        CHECK.refused("one, undone", STATE, () -> undone(1, 1), GlowwormGrid::undo);
        CHECK.refused("eight, undone", STATE, () -> undone(8, 8), GlowwormGrid::undo);
        CHECK.same("of nine, the eighth", undone(9, 7).undo(), 0);
        CHECK.refused("of nine, the ninth", STATE, () -> undone(9, 8), GlowwormGrid::undo);
    }

    private static GlowwormGrid stepped(int steps) {
        GlowwormGrid grid = new GlowwormGrid();
        for (int step = 0; step < steps; step++) {
            grid.step();
        }
        return grid;
    }

    private static GlowwormGrid undone(int steps, int undos) {
        GlowwormGrid grid = stepped(steps);
        for (int undo = 0; undo < undos; undo++) {
            grid.undo();
        }
        return grid;
    }

    private static void undoLastEight() {
        CHECK.sentence(47, "The last 8 successful modifications can be undone.");
        for (int steps = 0; steps <= 30; steps++) {
            GlowwormGrid grid = stepped(steps);
            int undos = 0;
            while (undos < 20 && Whole.outcome(grid, GlowwormGrid::undo).equals("nothing thrown")) {
                undos++;
                CHECK.same("state after undo " + undos + " of " + steps, grid.stepCount(), steps - undos);
            }
            CHECK.same("of " + steps, undos, Math.min(steps, 8));
        }
        GlowwormGrid grid = undone(12, 8);
        for (int step = 0; step < 9; step++) {
            grid.step();
        }
        CHECK.same("eight more, after all were undone", grid.undo(), 7);
    }

    private static void undoCounts() {
        CHECK.sentence(47, "Returns the number of modifications that can still be undone.");
        for (int steps = 1; steps <= 9; steps++) {
            CHECK.same("after " + steps, stepped(steps).undo(), Math.min(steps, 8) - 1);
        }
        GlowwormGrid grid = stepped(9);
        for (int left = 7; left >= 0; left--) {
            CHECK.same("left", grid.undo(), left);
        }
        grid.step();
        grid.step();
        CHECK.same("one of two left", grid.undo(), 1);
        grid.step();
        CHECK.same("again", grid.undo(), 1);
        CHECK.same("none left", grid.undo(), 0);
    }

    /** A call of each kind that is a modification, each one successful, in this order too. */
    private static Map<String, Consumer<GlowwormGrid>> modifications() {
        Map<String, Consumer<GlowwormGrid>> calls = new LinkedHashMap<>();
        calls.put("removeWorm", grid -> grid.removeWorm(0));
        calls.put("resize", grid -> grid.resize(2, 3));
        calls.put("setPattern", grid -> grid.setPattern('+'));
        calls.put("setLight", grid -> grid.setLight(1, 1, !grid.isLit(1, 1)));
        calls.put("press", grid -> grid.press(0, 2));
        calls.put("toggleGoal", grid -> grid.toggleGoal(1, 2));
        calls.put("addWorm", grid -> grid.addWorm(1, 1, 's'));
        calls.put("step", GlowwormGrid::step);
        calls.put("chase", GlowwormGrid::chase);
        calls.put("execute", grid -> Make.execute(grid, "size 3 3;press 0 0;step;step"));
        calls.put("solve", GlowwormGrid::solve);
        return calls;
    }

    private static void undoEachKind() {
        CHECK.sentence(47, "The modifications are the successful calls of resize, setPattern, setLight, press, "
                + "toggleGoal, solve, chase, addWorm, removeWorm, step and execute.");
        for (Map.Entry<String, Consumer<GlowwormGrid>> call : modifications().entrySet()) {
            GlowwormGrid grid = restored();
            String before = Look.at(grid) + Look.lightsByPresses(grid);
            call.getValue().accept(grid);
            CHECK.same("one more by " + call.getKey(), grid.undo(), 0);
            CHECK.same("undone " + call.getKey(), Look.at(grid) + Look.lightsByPresses(grid), before);
        }
    }

    /** Nothing can be undone, and each kind of modification can be made. */
    private static GlowwormGrid restored() {
        GlowwormGrid grid = Make.grid(3, 3, '+');
        grid.press(0, 0);
        grid.setLight(0, 1, false);
        grid.toggleGoal(2, 0);
        grid.addWorm(2, 2, 'n');
        grid.step();
        grid.save();
        grid.restore();
        return grid;
    }

    private static void undoAllKinds() {
        CHECK.sentence(47, "The last 8 successful modifications can be undone.");
        Map<String, Consumer<GlowwormGrid>> calls = modifications();
        String[] states = new String[calls.size()];
        int made = 0;
        for (Consumer<GlowwormGrid> call : calls.values()) {
            states[made] = Look.at(afterModifications(made));
            made++;
        }
        for (int undos = 1; undos <= 8; undos++) {
            GlowwormGrid grid = afterModifications(made);
            for (int undo = 0; undo < undos; undo++) {
                CHECK.same("left", grid.undo(), 7 - undo);
            }
            CHECK.same("after undo " + undos, Look.at(grid), states[made - undos]);
        }
    }

    private static GlowwormGrid afterModifications(int count) {
        GlowwormGrid grid = restored();
        int made = 0;
        for (Consumer<GlowwormGrid> call : modifications().values()) {
            if (made < count) {
                call.accept(grid);
            }
            made++;
        }
        return grid;
    }

    private static void undoRefusedCalls() {
        CHECK.sentence(47, "A method that throws an exception leaves the state unchanged, except that execute empties "
                + "the text buffer.");
        GlowwormGrid grid = Make.lit('x', "*.", "..");
        grid.save();
        grid.restore();
        grid.step();
        Whole.outcome(grid, refused -> refused.resize(0, 1));
        Whole.outcome(grid, refused -> refused.setPattern('n'));
        Whole.outcome(grid, refused -> refused.setLight(2, 0, true));
        Whole.outcome(grid, refused -> refused.press(0, 2));
        Whole.outcome(grid, refused -> refused.toggleGoal(-1, 0));
        Whole.outcome(grid, GlowwormGrid::solve);
        Whole.outcome(grid, GlowwormGrid::chase);
        Whole.outcome(grid, refused -> refused.addWorm(0, 0, 'x'));
        Whole.outcome(grid, refused -> refused.removeWorm(0));
        Whole.outcome(grid, refused -> Make.execute(refused, "press 0 0;press 2 0"));
        Whole.outcome(grid, refused -> Make.execute(refused, "press 0 0;"));
        CHECK.same("only the step can be undone", grid.undo(), 0);
        CHECK.same("the step is undone", grid.stepCount(), 0);
        CHECK.same("the lights are as they were", Look.lights(grid), "*./..");
    }

    private static void undoLookingCalls() {
        CHECK.sentence(47, "Undoes the last modification that can be undone.");
        GlowwormGrid grid = stepped(1);
        grid.type('s');
        grid.writeRow(2);
        grid.lineAt(0);
        grid.fewestPresses();
        grid.quietCellCount();
        grid.isConsistent();
        Look.at(grid);
        Look.solution(grid);
        grid.save();
        CHECK.same("none of these is a modification", grid.undo(), 0);
        CHECK.same("the step is undone", grid.stepCount(), 0);
    }

    private static void undoChangesNothing() {
        CHECK.sentence(47, "The modifications are the successful calls of resize, setPattern, setLight, press, "
                + "toggleGoal, solve, chase, addWorm, removeWorm, step and execute.");
        GlowwormGrid grid = new GlowwormGrid();
        grid.resize(3, 3);
        grid.setPattern('+');
        grid.setLight(0, 0, false);
        grid.solve();
        grid.chase();
        Make.execute(grid, "solve;chase");
        CHECK.same("also those that change nothing", grid.undo(), 5);
    }

    private static void undoKeepsTheRest() {
        CHECK.sentence(47, NOT_PART);
        GlowwormGrid grid = withRest();
        grid.undo();
        checkRest(grid);
    }

    /** The last modification is older than the line, the positions and the text. */
    private static GlowwormGrid withRest() {
        GlowwormGrid grid = Make.lit('+', "*.");
        grid.save();
        grid.press(0, 0);
        grid.writeRow(0);
        Whole.outcome(grid, made -> Make.execute(made, "step?"));
        Whole.outcome(grid, made -> Make.execute(made, "step;press 9 9"));
        Make.type(grid, "goal 0 0;goal 0 1;st");
        return grid;
    }

    private static void checkRest(GlowwormGrid grid) {
        CHECK.same("line", Whole.line(grid), ".*!");
        CHECK.same("error position", grid.errorPosition(), 4);
        CHECK.same("failed command", grid.failedCommand(), 1);
        CHECK.same("text", grid.type('e'), 21);
        grid.type('p');
        CHECK.same("text, executed", grid.execute(), 3);
        CHECK.same("text, executed", Look.goals(grid), "**");
    }

    private static void saveCounts() {
        CHECK.sentence(48, "Returns the number of cells.");
        CHECK.same("at first", new GlowwormGrid().save(), 9);
        CHECK.same("the smallest", Make.grid(1, 1, '+').save(), 1);
        CHECK.same("the largest", Make.grid(5, 5, '+').save(), 25);
        CHECK.same("2x5", Make.grid(2, 5, '+').save(), 10);
    }

    private static void saveReplaces() {
        CHECK.sentence(48, "Saves the state as a snapshot, which replaces an earlier snapshot.");
        GlowwormGrid grid = Make.busyWithWorms(4);
        String first = Look.at(grid);
        CHECK.same("the first", grid.save(), 6);
        grid.resize(1, 1);
        grid.press(0, 0);
        CHECK.same("the first is restored", grid.restore(), 6);
        CHECK.same("the first is restored", Look.at(grid), first);
        grid.resize(1, 1);
        grid.press(0, 0);
        String second = Look.at(grid);
        CHECK.same("the second", grid.save(), 1);
        grid.resize(5, 5);
        CHECK.same("the second is restored", grid.restore(), 1);
        CHECK.same("the second is restored", Look.at(grid), second);
        CHECK.same("by its presses", Look.lightsByPresses(grid), "*");
        CHECK.same("the second again", grid.restore(), 1);
    }

    private static void saveIsNoModification() {
        CHECK.sentence(48, "The modifications are the successful calls of resize, setPattern, setLight, press, "
                + "toggleGoal, solve, chase, addWorm, removeWorm, step and execute.");
        GlowwormGrid grid = stepped(8);
        String before = Look.at(grid);
        grid.save();
        CHECK.same("save changes nothing", Look.at(grid), before);
        CHECK.same("all eight can still be undone", grid.undo(), 7);
        CHECK.same("the last one is undone", grid.stepCount(), 7);
    }

    private static void saveKeepsTheRest() {
        CHECK.sentence(48, NOT_PART);
        GlowwormGrid grid = withRest();
        grid.save();
        checkRest(grid);
        GlowwormGrid later = Make.lit('+', "*.");
        Whole.outcome(later, made -> Make.execute(made, "stop"));
        later.writeRow(0);
        later.save();
        Whole.outcome(later, made -> Make.execute(made, "step?"));
        later.press(0, 0);
        later.writeRow(0);
        later.restore();
        CHECK.same("the line was not saved", Whole.line(later), ".*!");
        CHECK.same("the error position was not saved", later.errorPosition(), 4);
    }

    private static void restoreNone() {
        CHECK.sentence(49, "Throws IllegalStateException if there is no snapshot");
        CHECK.refused("at first", STATE, GlowwormGrid::new, GlowwormGrid::restore);
        CHECK.refused("after modifications", STATE, () -> stepped(9), GlowwormGrid::restore);
        CHECK.refused("with text", STATE, EdgeUndoTest::neverSaved, GlowwormGrid::restore);
        GlowwormGrid grid = new GlowwormGrid();
        grid.save();
        CHECK.same("saved at first", grid.restore(), 9);
    }

    private static GlowwormGrid neverSaved() {
        GlowwormGrid grid = Make.lit('x', "*..", "..*");
        grid.press(1, 1);
        grid.writeRow(1);
        Make.type(grid, "goal 0 0;st");
        return grid;
    }

    private static void restoreKeepsSnapshot() {
        CHECK.sentence(49, "Restores the snapshot, which is kept.");
        GlowwormGrid grid = Make.busyWithWorms(3);
        String saved = Look.at(grid) + Look.lightsByPresses(grid);
        grid.save();
        for (int time = 1; time <= 3; time++) {
            grid.press(0, 0);
            grid.removeWorm(0);
            grid.step();
            grid.toggleGoal(1, 1);
            grid.setPattern('s');
            CHECK.same("cells, time " + time, grid.restore(), 6);
            CHECK.same("state, time " + time, Look.at(grid) + Look.lightsByPresses(grid), saved);
        }
        grid.press(0, 0);
        grid.undo();
        CHECK.same("undo keeps it", grid.restore(), 6);
    }

    private static void restoreNothingToUndo() {
        CHECK.sentence(49, "Afterwards nothing can be undone.");
        for (int steps = 0; steps <= 9; steps++) {
            int count = steps;
            CHECK.refused("of " + steps, STATE, () -> restoredAfter(count), GlowwormGrid::undo);
            GlowwormGrid grid = restoredAfter(count);
            grid.step();
            CHECK.same("what comes later can be", grid.undo(), 0);
            CHECK.same("back to the snapshot", grid.stepCount(), 0);
            Whole.outcome(grid, GlowwormGrid::undo);
            CHECK.same("and no further", grid.stepCount(), 0);
        }
        CHECK.refused("saved and restored at once", STATE, EdgeUndoTest::restored, GlowwormGrid::undo);
    }

    private static GlowwormGrid restoredAfter(int steps) {
        GlowwormGrid grid = new GlowwormGrid();
        grid.save();
        for (int step = 0; step < steps; step++) {
            grid.step();
        }
        grid.restore();
        return grid;
    }

    private static void restoreCounts() {
        CHECK.sentence(49, "Returns the number of cells.");
        GlowwormGrid grid = Make.grid(5, 5, '+');
        grid.save();
        grid.resize(1, 1);
        CHECK.same("from the smallest to the largest", grid.restore(), 25);
        grid.resize(1, 1);
        grid.save();
        grid.resize(5, 5);
        CHECK.same("from the largest to the smallest", grid.restore(), 1);
        CHECK.same("rows", grid.rowCount(), 1);
        CHECK.same("columns", grid.columnCount(), 1);
    }

    private static void restoreKeepsTheRest() {
        CHECK.sentence(49, NOT_PART);
        GlowwormGrid grid = withRest();
        grid.restore();
        checkRest(grid);
    }

    private static void lastCall() {
        CHECK.sentence(47, "An object is used for at most 512 calls after it has been made; what later calls answer is "
                + "free.");
        GlowwormGrid pressed = Make.grid(5, 5, '+');
        for (int call = 3; call <= 511; call++) {
            pressed.press(4, 4);
        }
        CHECK.same("the 512th call", pressed.pressesOf(4, 4), 509);
        GlowwormGrid stepped = stepped(511);
        CHECK.same("the 512th call undoes", stepped.undo(), 7);
        GlowwormGrid typed = new GlowwormGrid();
        for (int call = 1; call <= 507; call++) {
            typed.step();
        }
        Make.type(typed, "step");
        CHECK.same("the 512th call executes", typed.execute(), 1);
    }
}
