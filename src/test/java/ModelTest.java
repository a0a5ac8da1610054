import java.lang.reflect.InvocationTargetException;
import java.lang.reflect.Method;
import java.util.Random;

/** All promises: the same runs of calls on the program and on the model of the document. */
final class ModelTest {
    private static final Check CHECK = new Check("ModelTest");
    private static final int RUNS = 600;
    private static final int CALLS = 512;
    private static final String[] VERBS = {"press", "light", "dark", "goal", "size", "pattern", "worm", "step",
            "solve", "chase"};

    private final Random random;
    private final int run;
    private final GlowwormGrid grid = new GlowwormGrid();
    private final Model model = new Model();
    private final StringBuilder calls = new StringBuilder();
    private int made;
    private boolean isRight = true;

    private ModelTest(int run) {
        this.run = run;
        random = new Random(run);
    }

    public static void main(String[] arguments) {
        for (int run = 0; run < RUNS; run++) {
            new ModelTest(run).compare();
        }
        CHECK.end();
    }

    private void compare() {
        while (made < CALLS && isRight) {
            int kind = random.nextInt(100);
            if (kind < 6) {
                size();
            } else if (kind < 10) {
                call("setPattern", random.nextInt(8) == 0 ? anyCharacter() : signOf("+xos"));
            } else if (kind < 50) {
                changeCell();
            } else if (kind < 60) {
                worms();
            } else if (kind < 66) {
                text();
            } else if (kind < 74) {
                past();
            } else {
                look();
            }
        }
        CHECK.yes("run " + run + ":" + calls, isRight);
    }

    private void size() {
        call("resize", random.nextInt(7), random.nextInt(7));
    }

    private void changeCell() {
        switch (random.nextInt(8)) {
            case 0:
            case 1:
                call("setLight", row(), column(), random.nextBoolean());
                return;
            case 2:
                call("toggleGoal", row(), column());
                return;
            case 3:
                call(random.nextBoolean() ? "solve" : "chase");
                return;
            default:
                call("press", row(), column());
        }
    }

    private void worms() {
        switch (random.nextInt(6)) {
            case 0:
                call("removeWorm", random.nextInt(6) - 1);
                return;
            case 1:
            case 2:
                call("addWorm", row(), column(), random.nextInt(8) == 0 ? anyCharacter() : signOf("nesw"));
                return;
            default:
                call("step");
        }
    }

    private void text() {
        StringBuilder text = new StringBuilder();
        int commands = 1 + random.nextInt(6);
        for (int index = 0; index < commands; index++) {
            text.append(index == 0 ? "" : ";").append(command());
        }
        if (random.nextInt(3) == 0) {
            damage(text);
        }
        for (int index = 0; index < text.length() && made < CALLS; index++) {
            call("type", text.charAt(index));
        }
        call("execute");
        call("errorPosition");
        call("failedCommand");
    }

    private String command() {
        String verb = VERBS[random.nextInt(VERBS.length)];
        if (verb.equals("step") || verb.equals("solve") || verb.equals("chase")) {
            return verb;
        }
        if (verb.equals("pattern")) {
            return verb + " " + signOf("+xos");
        }
        int more = verb.equals("size") ? 1 : 0;
        String start = verb + " " + (random.nextInt(3) + more) + " " + (random.nextInt(3) + more);
        return verb.equals("worm") ? start + " " + signOf("nesw") : start;
    }

    private void damage(StringBuilder text) {
        int position = random.nextInt(text.length());
        switch (random.nextInt(3)) {
            case 0:
                text.setLength(position);
                return;
            case 1:
                text.setCharAt(position, anyCharacter());
                return;
            default:
                text.deleteCharAt(position);
        }
    }

    private void past() {
        switch (random.nextInt(6)) {
            case 0:
                call("save");
                return;
            case 1:
                call("restore");
                return;
            default:
                call("undo");
        }
    }

    private void look() {
        String[] plain = {"rowCount", "columnCount", "pattern", "litCount", "isReached", "differenceCount",
                "isSolvable", "isSolvableByParity", "quietNumber", "quietCellCount", "fewestPresses", "wormCount",
                "stepCount", "meanPresses", "litShare", "isConsistent", "errorPosition", "failedCommand"};
        String[] ofCell = {"isLit", "isLitByPresses", "pressesOf", "reachOf", "isGoalLit", "isQuietCell",
                "isInSolution", "wormIn"};
        String[] ofWorm = {"rowOfWorm", "columnOfWorm", "directionOf"};
        switch (random.nextInt(8)) {
            case 0:
            case 1:
            case 2:
                call(plain[random.nextInt(plain.length)]);
                return;
            case 3:
            case 4:
            case 5:
                call(ofCell[random.nextInt(ofCell.length)], row(), column());
                return;
            case 6:
                call(ofWorm[random.nextInt(ofWorm.length)], random.nextInt(6) - 1);
                return;
            default:
                line();
        }
    }

    private void line() {
        call("litInRow", row());
        call("litInColumn", column());
        call("writeRow", row());
        for (int index = -1; index < 11 && made < CALLS; index++) {
            call("lineAt", index);
        }
    }

    /** Mostly a row of the grid. */
    private int row() {
        return random.nextInt(25) == 0 ? random.nextInt(9) - 2 : random.nextInt(model.rowCount());
    }

    private int column() {
        return random.nextInt(25) == 0 ? random.nextInt(9) - 2 : random.nextInt(model.columnCount());
    }

    private char signOf(String signs) {
        return signs.charAt(random.nextInt(signs.length()));
    }

    private char anyCharacter() {
        return (char) random.nextInt(140);
    }

    private void call(String name, Object... arguments) {
        if (made >= CALLS || !isRight) {
            return;
        }
        made++;
        calls.append(' ').append(name).append(java.util.Arrays.toString(arguments));
        String got = answer(grid, name, arguments);
        String due = answer(model, name, arguments);
        if (!got.equals(due)) {
            isRight = false;
            calls.append(" answered ").append(got).append(", due is ").append(due);
        }
    }

    private static String answer(Object on, String name, Object[] arguments) {
        Class<?>[] types = new Class<?>[arguments.length];
        for (int index = 0; index < arguments.length; index++) {
            Object argument = arguments[index];
            types[index] = argument instanceof Integer ? int.class
                    : argument instanceof Character ? char.class : boolean.class;
        }
        try {
            Method method = on.getClass().getDeclaredMethod(name, types);
            return String.valueOf(method.invoke(on, arguments));
        } catch (InvocationTargetException e) {
            return "throws " + e.getCause().getClass().getName();
        } catch (ReflectiveOperationException e) {
            throw new IllegalStateException(name, e);
        }
    }
}
