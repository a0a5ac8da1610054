import java.util.function.Consumer;
import java.util.function.Function;
import java.util.function.Supplier;

/**
 * Reads all that a grid holds, also what only later calls show: the text buffer, the past and the snapshot.
 * Reading these changes the grid, so that each reading is done on a grid of its own, made by the same recipe.
 */
final class Whole {
    // One more than can be undone.
    private static final int UNDOS = 9;

    // More than a line can have.
    private static final int LONGEST_LINE = 20;

    private Whole() {
    }

    static String of(Supplier<GlowwormGrid> recipe) {
        return after(recipe, grid -> { });
    }

    static String after(Supplier<GlowwormGrid> recipe, Consumer<GlowwormGrid> call) {
        StringBuilder seen = new StringBuilder();
        seen.append("now ").append(state(made(recipe, call)));
        seen.append("\n line ").append(line(made(recipe, call)));
        seen.append("\n text ").append(text(made(recipe, call)));
        for (int undos = 1; undos <= UNDOS; undos++) {
            seen.append("\n undo ").append(past(made(recipe, call), undos));
        }
        seen.append("\n snapshot ").append(snapshot(made(recipe, call)));
        return seen.toString();
    }

    static String positionsOf(Supplier<GlowwormGrid> recipe) {
        return positionsAfter(recipe, grid -> { });
    }

    static String positionsAfter(Supplier<GlowwormGrid> recipe, Consumer<GlowwormGrid> call) {
        GlowwormGrid grid = made(recipe, call);
        return answer(grid, GlowwormGrid::errorPosition) + " " + answer(grid, GlowwormGrid::failedCommand);
    }

    /** The name of the exception that the call throws. */
    static String outcome(GlowwormGrid grid, Consumer<GlowwormGrid> call) {
        return answer(grid, made -> {
            call.accept(made);
            return "nothing thrown";
        });
    }

    private static GlowwormGrid made(Supplier<GlowwormGrid> recipe, Consumer<GlowwormGrid> call) {
        GlowwormGrid grid = recipe.get();
        outcome(grid, call);
        return grid;
    }

    private static String answer(GlowwormGrid grid, Function<GlowwormGrid, Object> call) {
        try {
            return String.valueOf(call.apply(grid));
        } catch (RuntimeException e) {
            return e.getClass().getName();
        }
    }

    private static String state(GlowwormGrid grid) {
        return Look.at(grid) + " by presses " + Look.lightsByPresses(grid);
    }

    /** The characters of the line, as far as there are any. */
    static String line(GlowwormGrid grid) {
        StringBuilder seen = new StringBuilder();
        boolean goesOn = true;
        while (goesOn && seen.length() < LONGEST_LINE) {
            String next = answer(grid, read -> read.lineAt(seen.length()));
            goesOn = next.length() == 1;
            seen.append(goesOn ? next : "");
        }
        return seen.toString();
    }

    /** What the buffer holds shows in what it does, with the end of "step" behind it. */
    private static String text(GlowwormGrid grid) {
        return answer(grid, typed -> typed.type('e')) + " " + answer(grid, typed -> typed.type('p')) + " "
                + answer(grid, GlowwormGrid::execute) + " " + state(grid);
    }

    private static String past(GlowwormGrid grid, int undos) {
        String last = "";
        for (int undo = 0; undo < undos; undo++) {
            last = answer(grid, GlowwormGrid::undo);
        }
        return last + " " + state(grid);
    }

    private static String snapshot(GlowwormGrid grid) {
        return answer(grid, GlowwormGrid::restore) + " " + state(grid);
    }
}
