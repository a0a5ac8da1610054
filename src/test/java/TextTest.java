import java.util.NoSuchElementException;

/** Promises 43 to 46: text. */
final class TextTest {
    private static final Check CHECK = new Check("TextTest");
    private static final Class<IllegalArgumentException> ARGUMENT = IllegalArgumentException.class;
    private static final Class<IllegalStateException> STATE = IllegalStateException.class;
    private static final Class<NoSuchElementException> NO_SUCH = NoSuchElementException.class;

    private TextTest() {
    }

    public static void main(String[] arguments) {
        type();
        typeRefused();
        eachCommand();
        severalCommands();
        malformed();
        tooShort();
        everyPlace();
        longTexts();
        failing();
        failingTakesBack();
        bufferIsEmptied();
        positionsStay();
        CHECK.end();
    }

    private static void type() {
        GlowwormGrid grid = new GlowwormGrid();
        for (int index = 1; index <= 60; index++) {
            CHECK.same("43: number", grid.type(index % 2 == 0 ? ' ' : '~'), index);
        }
        CHECK.refused("43: a 61st", STATE, grid, () -> grid.type('a'));
        CHECK.refused("43: a wrong 61st", ARGUMENT, grid, () -> grid.type((char) 31));
    }

    private static void typeRefused() {
        for (int number : new int[] {0, 10, 31, 127, 128, 255, 256, 288, 65535}) {
            GlowwormGrid grid = new GlowwormGrid();
            CHECK.refused("43: " + number, ARGUMENT, grid, () -> grid.type((char) number));
            CHECK.same("43: not taken " + number, grid.type(' '), 1);
        }
    }

    private static void eachCommand() {
        effect("press 1 2", "3x3+ lit ..*/.**/..* goals .../.../... presses 000/001/000 worms  steps 0");
        effect("light 0 2", "3x3+ lit ..*/.../... goals .../.../... presses 000/000/000 worms  steps 0");
        effect("light 0 2;dark 0 2", "3x3+ lit .../.../... goals .../.../... presses 000/000/000 worms  steps 0");
        effect("goal 2 1", "3x3+ lit .../.../... goals .../.../.*. presses 000/000/000 worms  steps 0");
        effect("goal 2 1;goal 2 1", "3x3+ lit .../.../... goals .../.../... presses 000/000/000 worms  steps 0");
        effect("size 1 4", "1x4+ lit .... goals .... presses 0000 worms  steps 0");
        effect("pattern +", "3x3+ lit .../.../... goals .../.../... presses 000/000/000 worms  steps 0");
        effect("pattern x", "3x3x lit .../.../... goals .../.../... presses 000/000/000 worms  steps 0");
        effect("pattern o", "3x3o lit .../.../... goals .../.../... presses 000/000/000 worms  steps 0");
        effect("pattern s", "3x3s lit .../.../... goals .../.../... presses 000/000/000 worms  steps 0");
        effect("worm 1 2 n", "3x3+ lit .../.../... goals .../.../... presses 000/000/000 worms 12n steps 0");
        effect("worm 1 2 e", "3x3+ lit .../.../... goals .../.../... presses 000/000/000 worms 12e steps 0");
        effect("worm 1 2 s", "3x3+ lit .../.../... goals .../.../... presses 000/000/000 worms 12s steps 0");
        effect("worm 1 2 w", "3x3+ lit .../.../... goals .../.../... presses 000/000/000 worms 12w steps 0");
        effect("step", "3x3+ lit .../.../... goals .../.../... presses 000/000/000 worms  steps 1");
        effect("goal 0 0;goal 0 1;goal 1 0;solve",
                "3x3+ lit **./*../... goals **./*../... presses 100/000/000 worms  steps 0");
        effect("size 2 2;light 0 1;chase", "2x2+ lit ../** goals ../.. presses 00/01 worms  steps 0");
    }

    private static void effect(String text, String due) {
        GlowwormGrid grid = new GlowwormGrid();
        CHECK.same("44: " + text, Make.execute(grid, text), text.split(";").length);
        CHECK.same("44: state after " + text, Look.at(grid), due);
    }

    private static void severalCommands() {
        GlowwormGrid grid = new GlowwormGrid();
        CHECK.same("44: twelve", Make.execute(grid, "step;step;step;step;step;step;step;step;step;step;step;step"), 12);
        CHECK.same("44: twelve steps", grid.stepCount(), 12);
        CHECK.same("44: in order", Make.execute(grid, "size 1 3;worm 0 0 e;step;light 0 0;step;goal 0 2"), 6);
        CHECK.same("44: in order", Look.at(grid), "1x3+ lit *.. goals ..* presses 011 worms 02e steps 14");
        CHECK.same("44: five", Make.execute(grid, "pattern x;press 0 0;pattern s;press 0 0;press 0 1"), 5);
        CHECK.same("44: pattern on its way", Look.lights(grid), "**.");
    }

    private static void malformed() {
        malformed("x", 0);
        malformed(" step", 0);
        malformed("Step", 0);
        malformed(";step", 0);
        malformed("pxess 0 0", 1);
        malformed("peess", 1);
        malformed("prattern x", 2);
        malformed("parress", 2);
        malformed("sx", 1);
        malformed("sizzle", 3);
        malformed("stop", 2);
        malformed("solid", 3);
        malformed("press  0 0", 6);
        malformed("press0 0", 5);
        malformed("press a 0", 6);
        malformed("press 00", 7);
        malformed("press 0 -1", 8);
        malformed("press 0 00", 9);
        malformed("press 0 0 ", 9);
        malformed("press 0 0 n", 9);
        malformed("press 0 :", 8);
        malformed("press 0 /", 8);
        malformed("press # #", 6);
        malformed("pattern y", 8);
        malformed("pattern @", 8);
        malformed("pattern +x", 9);
        malformed("pattern n", 8);
        malformed("worm 0 0 x", 9);
        malformed("worm 0 0 ^", 9);
        malformed("worm 0 0;step", 8);
        malformed("worm 0 0 nn", 10);
        malformed("step,step", 4);
        malformed("step;;step", 5);
        malformed("step; step", 5);
        malformed("steps", 4);
        malformed("step step", 4);
        malformed("chase;sto", 8);
        malformed("press 9 9;size 0 0;solvE", 23);
        malformed("press 0 0;light 1 1;dark 2 2;goal 0 0,", 37);
    }

    private static void tooShort() {
        malformed("", 0);
        malformed("p", 1);
        malformed("step;", 5);
        malformed("press", 5);
        malformed("press ", 6);
        malformed("press 1", 7);
        malformed("press 1 ", 8);
        malformed("pattern ", 8);
        malformed("worm 1 1", 8);
        malformed("worm 1 1 ", 9);
        malformed("light 0 0;s", 11);
        malformed("light 0 0;chas", 14);
    }

    private static void malformed(String text, int position) {
        GlowwormGrid grid = new GlowwormGrid();
        Make.type(grid, text);
        CHECK.refused("44: <" + text + ">", ARGUMENT, grid, grid::execute);
        CHECK.same("45: <" + text + ">", grid.errorPosition(), position);
        CHECK.same("44: emptied after <" + text + ">", grid.type('a'), 1);
        CHECK.refused("46: <" + text + ">", NO_SUCH, grid, grid::failedCommand);
    }

    /** Every command, with a wrong sign in each of its places and cut off at each of them. */
    private static void everyPlace() {
        String[] commands = {"press 0 1", "light 0 1", "dark 0 1", "goal 0 1", "size 1 2", "pattern o",
                "worm 0 1 s", "step", "solve", "chase"};
        for (String command : commands) {
            for (int place = 0; place < command.length(); place++) {
                malformed(command.substring(0, place), place);
                malformed(command.substring(0, place) + "?" + command.substring(place + 1), place);
                malformed("step;" + command.substring(0, place) + "?", place + 5);
            }
            malformed(command + "?", command.length());
            malformed(command + ";", command.length() + 1);
        }
    }

    private static void longTexts() {
        String steps = "step;step;step;step;step;step;step;step;step;step;step;";
        GlowwormGrid grid = new GlowwormGrid();
        CHECK.same("44: 60 characters", Make.execute(grid, steps + "chase"), 12);
        malformed(steps + "ches", 57);
        malformed(steps + "press", 60);
        malformed(steps + "step;", 60);
        malformed(steps + "step?", 59);
    }

    private static void failing() {
        failing("press 3 0", 0);
        failing("press 0 3", 0);
        failing("light 3 3", 0);
        failing("dark 9 0", 0);
        failing("goal 0 9", 0);
        failing("size 0 1", 0);
        failing("size 1 0", 0);
        failing("size 6 1", 0);
        failing("size 1 6", 0);
        failing("worm 3 0 n", 0);
        failing("worm 0 0 n;worm 0 0 e", 1);
        failing("worm 0 0 n;worm 0 1 n;worm 0 2 n;worm 1 0 n;worm 2 0 n", 4);
        failing("pattern x;chase", 1);
        failing("pattern o;chase;step", 1);
        failing("step;pattern s;chase", 2);
        failing("size 1 2;light 0 1;solve", 2);
        failing("size 2 2;press 2 0", 1);
        failing("press 0 0;press 0 0;press 0 5;press 9 9", 2);
    }

    private static void failing(String text, int command) {
        GlowwormGrid grid = new GlowwormGrid();
        grid.press(2, 2);
        grid.addWorm(2, 1, 'w');
        if (text.startsWith("worm 0 0 n;worm 0 1 n")) {
            grid.removeWorm(0);
        }
        Make.type(grid, text);
        CHECK.refused("44: " + text, STATE, grid, grid::execute);
        CHECK.same("46: " + text, grid.failedCommand(), command);
        CHECK.refused("45: " + text, NO_SUCH, grid, grid::errorPosition);
        CHECK.same("44: emptied after " + text, grid.type('a'), 1);
    }

    private static void failingTakesBack() {
        GlowwormGrid grid = Make.lit('o', "*..", "..*");
        grid.toggleGoal(1, 1);
        grid.press(0, 0);
        grid.addWorm(0, 2, 'w');
        grid.step();
        Make.type(grid, "press 1 1;goal 0 0;step;size 4 4;pattern +;press 5 5");
        CHECK.refused("44: all taken back", STATE, grid, grid::execute);
        CHECK.same("46: sixth", grid.failedCommand(), 5);
        CHECK.same("10: the record, too", Look.lightsByPresses(grid), Look.lights(grid));
        grid.undo();
        CHECK.same("47: the step is the last modification", grid.stepCount(), 0);
    }

    private static void bufferIsEmptied() {
        GlowwormGrid grid = new GlowwormGrid();
        Make.execute(grid, "step");
        CHECK.same("44: empty after a success", grid.type('s'), 1);
        CHECK.same("44: typed on", Make.execute(grid, "tep"), 1);
        CHECK.refused("44: nothing typed", ARGUMENT, grid, grid::execute);
        CHECK.same("45: nothing typed", grid.errorPosition(), 0);
    }

    private static void positionsStay() {
        GlowwormGrid fresh = new GlowwormGrid();
        CHECK.refused("45: none so far", NO_SUCH, fresh, fresh::errorPosition);
        CHECK.refused("46: none so far", NO_SUCH, fresh, fresh::failedCommand);
        GlowwormGrid grid = new GlowwormGrid();
        grid.save();
        Make.type(grid, "step?");
        CHECK.refused("44: malformed", ARGUMENT, grid, grid::execute);
        Make.type(grid, "step;chase;press 8 8");
        CHECK.refused("44: fails", STATE, grid, grid::execute);
        Make.execute(grid, "step");
        CHECK.same("45: after others", grid.errorPosition(), 4);
        CHECK.same("46: after others", grid.failedCommand(), 2);
        Make.type(grid, "st");
        grid.undo();
        grid.restore();
        CHECK.same("45: not undone or restored", grid.errorPosition(), 4);
        CHECK.same("46: not undone or restored", grid.failedCommand(), 2);
        CHECK.same("43: not undone or restored", grid.type('e'), 3);
        Make.type(grid, "p;");
        CHECK.refused("44: ends too early", ARGUMENT, grid, grid::execute);
        CHECK.same("45: the last one", grid.errorPosition(), 5);
        Make.type(grid, "size 0 0");
        CHECK.refused("44: fails", STATE, grid, grid::execute);
        CHECK.same("46: the last one", grid.failedCommand(), 0);
        CHECK.same("45: still", grid.errorPosition(), 5);
    }
}
