import java.util.function.Consumer;
import java.util.function.Supplier;

/** Counts the answers of one test that are due and prints those that are not. */
final class Check {
    private final String name;
    private String sentence = "";
    private int right;
    private int wrong;

    Check(String name) {
        this.name = name;
    }

    /** What is checked from now on is asked by this sentence, which the document says of this promise. */
    void sentence(int promise, String words) {
        sentence = "promise " + promise + ", '" + words + "': ";
        yes("said by the document", Document.says(promise, words));
    }

    void same(String what, long got, long due) {
        note(got == due, what, String.valueOf(got), String.valueOf(due));
    }

    void same(String what, double got, double due) {
        note(got == due, what, String.valueOf(got), String.valueOf(due));
    }

    void same(String what, String got, String due) {
        note(got.equals(due), what, got, due);
    }

    void yes(String what, boolean got) {
        note(got, what, String.valueOf(got), "true");
    }

    void no(String what, boolean got) {
        note(!got, what, String.valueOf(got), "false");
    }

    /** The call must throw just this class, no class below it, and leave the state as it is. */
    void refused(String what, Class<? extends RuntimeException> due, GlowwormGrid grid, Runnable call) {
        String before = Look.at(grid);
        String got = "nothing thrown";
        try {
            call.run();
        } catch (RuntimeException e) {
            got = e.getClass().getName();
        }
        same(what, got, due.getName());
        same(what + ", state", Look.at(grid), before);
    }

    /** As above, and the grid must hold all that it holds without the call: see Whole. */
    void refused(String what, Class<? extends RuntimeException> due, Supplier<GlowwormGrid> recipe,
            Consumer<GlowwormGrid> call) {
        same(what, Whole.outcome(recipe.get(), call), due.getName());
        same(what + ", afterwards", Whole.after(recipe, call), Whole.of(recipe));
        same(what + ", positions", Whole.positionsAfter(recipe, call), Whole.positionsOf(recipe));
    }

    void end() {
        System.out.println(name + ": " + right + " answers as due, " + wrong + " not");
        if (wrong > 0 || right == 0) {
            System.exit(1);
        }
    }

    private void note(boolean isRight, String what, String got, String due) {
        if (isRight) {
            right++;
        } else {
            wrong++;
            System.out.println(name + ": " + sentence + what + " answered " + got + ", due is " + due);
        }
    }
}
