import java.util.HashSet;
import java.util.NoSuchElementException;
import java.util.Set;
import java.util.TreeSet;
import java.util.function.Consumer;
import java.util.function.Supplier;

/** The boundary cases of promises 43 to 46, a test for each sentence: text. */
final class EdgeTextTest {
    private static final Check CHECK = new Check("EdgeTextTest");
    private static final Class<IllegalArgumentException> ARGUMENT = IllegalArgumentException.class;
    private static final Class<IllegalStateException> STATE = IllegalStateException.class;
    private static final Class<NoSuchElementException> NO_SUCH = NoSuchElementException.class;
    private static final String ELEVEN_STEPS = "step;step;step;step;step;step;step;step;step;step;step;";
    private static final String FULL = ELEVEN_STEPS + "chase";
    private static final String ERROR_POSITION = "The error position of a malformed text is the index of its first "
            + "character that cannot continue any valid text, or its length if it ends too early.";
    private static final String FAILS = "A command fails if the method for it would throw an exception.";

    private EdgeTextTest() {
    }

    public static void main(String[] arguments) {
        typeNumbers();
        typeCharacters();
        typeNoCharacter();
        typeFull();
        typeFirstException();
        executeEmpties();
        executeNothing();
        executeCounts();
        executeLongest();
        executeDigits();
        executeAllOrNone();
        executeKeepsTheState();
        executeKeepsThePast();
        cellsFail();
        sizesFail();
        patternsAndStepsNeverFail();
        wormsFail();
        solveFails();
        chaseFails();
        commandsSeeTheEarlierOnes();
        commandsDoTheSame();
        malformedBeforeFailing();
        errorPositionFirstSign();
        errorPositionTooEarly();
        errorPositionEverySign();
        errorPositionNone();
        errorPositionOfTheLast();
        failedCommandNone();
        failedCommandIndex();
        failedCommandOfTheLast();
        CHECK.end();
    }

    private static void typeNumbers() {
        CHECK.sentence(43, "Returns the number of characters in the buffer.");
        GlowwormGrid grid = new GlowwormGrid();
        for (int number = 1; number <= 60; number++) {
            CHECK.same("number", grid.type('x'), number);
        }
        Whole.outcome(grid, GlowwormGrid::execute);
        CHECK.same("from 1 again", grid.type('x'), 1);
    }

    private static void typeCharacters() {
        CHECK.sentence(43, "Throws IllegalArgumentException if the character is not from 32 to 126");
        GlowwormGrid grid = new GlowwormGrid();
        for (int number = 32; number <= 126; number++) {
            CHECK.same("taken " + number, grid.type((char) number), 1);
            Whole.outcome(grid, GlowwormGrid::execute);
        }
    }

    private static void typeNoCharacter() {
        CHECK.sentence(43, "Throws IllegalArgumentException if the character is not from 32 to 126");
        for (int number : new int[] {31, 127, 0, 10, 13, 128, 160, 255, 256, 288, 32767, 32768, 65535}) {
            CHECK.refused("refused " + number, ARGUMENT, () -> Make.busyTyping(2, 3, '+'),
                    grid -> grid.type((char) number));
        }
    }

    private static void typeFull() {
        CHECK.sentence(43, "Throws IllegalStateException if the buffer contains 60 characters");
        GlowwormGrid grid = typed(FULL.substring(0, 59)).get();
        CHECK.same("a 60th", grid.type('e'), 60);
        for (char sign : " e;~".toCharArray()) {
            CHECK.refused("a 61st", STATE, typed(FULL), full -> full.type(sign));
        }
        Whole.outcome(grid, full -> full.type('s'));
        CHECK.same("the 60 are as they were", grid.execute(), 12);
        CHECK.same("room again", grid.type('e'), 1);
    }

    private static void typeFirstException() {
        CHECK.sentence(43, "If several exceptions apply, the one that is documented first is thrown.");
        for (int number : new int[] {31, 127, 0, 65535}) {
            CHECK.refused("full, and " + number, ARGUMENT, typed(FULL), full -> full.type((char) number));
        }
    }

    private static void executeEmpties() {
        CHECK.sentence(44, "Executes the text in the buffer, which is empty afterwards.");
        for (String text : new String[] {"step", FULL, "stop", "press 9 9", "", FULL.substring(0, 59)}) {
            GlowwormGrid grid = typed(text).get();
            Whole.outcome(grid, GlowwormGrid::execute);
            CHECK.same("after <" + text + ">", grid.type('s'), 1);
            Make.type(grid, "tep");
            CHECK.same("typed anew", grid.execute(), 1);
        }
    }

    private static void executeNothing() {
        CHECK.sentence(44, "Throws IllegalArgumentException if the text is malformed; its error position is stored");
        malformed("", 0);
        GlowwormGrid grid = typed("step").get();
        grid.execute();
        CHECK.same("nothing is left to execute", Whole.outcome(grid, GlowwormGrid::execute), ARGUMENT.getName());
    }

    private static void executeCounts() {
        CHECK.sentence(44, "Returns the number of commands.");
        for (int count = 1; count <= 12; count++) {
            String text = FULL.substring(0, 5 * count - 1);
            GlowwormGrid grid = typed(text.replace("chas", "step")).get();
            int steps = grid.stepCount();
            CHECK.same("commands", grid.execute(), count);
            CHECK.same("steps", grid.stepCount(), steps + count);
        }
    }

    private static void executeLongest() {
        CHECK.sentence(44, "Characters are collected in a buffer of at most 60 characters.");
        CHECK.same("60 characters", typed(FULL).get().execute(), 12);
        malformed(ELEVEN_STEPS + "chasE", 59);
        malformed(ELEVEN_STEPS + "press", 60);
        malformed(ELEVEN_STEPS + "step;", 60);
        fails(ELEVEN_STEPS.substring(0, 45) + "press 0 3;step", 9);
        CHECK.same("a command that ends in the 60th", executed(ELEVEN_STEPS.substring(0, 50) + "worm 0 0 n"), 11);
    }

    private static void executeDigits() {
        CHECK.sentence(44, "d is a blank and a decimal digit.");
        for (String verb : new String[] {"press", "light", "dark", "goal", "size", "worm"}) {
            int first = verb.length() + 1;
            String end = verb.equals("worm") ? " n" : "";
            fails(verb + " 0 9" + end, 0);
            fails(verb + " 9 0" + end, 0);
            malformed(verb + " / 0" + end, first);
            malformed(verb + " : 0" + end, first);
            malformed(verb + " 0 /" + end, first + 2);
            malformed(verb + " 0 :" + end, first + 2);
            malformed(verb + "  0 0" + end, first);
            malformed(verb + "00" + end, first - 1);
            malformed(verb + " 00" + end, first + 1);
            malformed(verb + " 0 00" + end, first + 3);
            malformed(verb + " -1 0" + end, first);
        }
        CHECK.same("the smallest", executed("press 0 0"), 1);
        CHECK.same("the largest cell", executed("size 5 5;press 4 4"), 2);
    }

    private static void executeAllOrNone() {
        CHECK.sentence(44, "The commands are executed in order, all of them or none: if a command fails, the effects of "
                + "the commands before it are taken back.");
        String[] effects = {"press 0 0", "light 0 1", "dark 0 0", "goal 2 2", "size 3 3", "size 5 5", "pattern x",
                "pattern +", "worm 0 0 e", "step", "solve", "chase"};
        for (String effect : effects) {
            CHECK.same("all: " + effect, executed(effect + ";step"), 2);
            fails(effect + ";press 9 9", 1);
            fails("goal 1 1;" + effect + ";step;size 0 0", 3);
            fails("press 9 9;" + effect, 0);
        }
        fails(ELEVEN_STEPS.substring(0, 50) + "press 3 0", 10);
    }

    private static void executeKeepsTheState() {
        CHECK.sentence(44, "A method that throws an exception leaves the state unchanged, except that execute empties "
                + "the text buffer.");
        malformed("press 0 0;stop", 12);
        fails("press 0 0;press 0 3", 1);
        GlowwormGrid grid = typed("press 0 0;press 0 2").get();
        CHECK.same("the last that is taken", grid.execute(), 2);
        CHECK.same("it stands", grid.undo(), 7);
    }

    private static void executeKeepsThePast() {
        CHECK.sentence(44, "Throws IllegalStateException if a command fails; its index is stored");
        GlowwormGrid grid = Make.grid(1, 5, 's');
        grid.press(0, 0);
        Make.type(grid, "press 0 1;press 0 2;press 0 3;press 0 4;press 0 5");
        CHECK.same("fails", Whole.outcome(grid, GlowwormGrid::execute), STATE.getName());
        CHECK.same("index", grid.failedCommand(), 4);
        CHECK.same("the commands before it are no modifications", grid.undo(), 2);
        CHECK.same("the press is undone", Look.lights(grid), ".....");
    }

    private static void cellsFail() {
        CHECK.sentence(44, FAILS);
        for (String verb : new String[] {"press", "light", "dark", "goal"}) {
            CHECK.same("first cell", executed(verb + " 0 0"), 1);
            CHECK.same("last cell", executed(verb + " 2 2"), 1);
            fails(verb + " 3 0", 0);
            fails(verb + " 0 3", 0);
            fails(verb + " 9 9", 0);
            fails("size 1 5;" + verb + " 1 0", 1);
            fails("size 5 1;" + verb + " 0 1", 1);
            CHECK.same("the only cell", executed("size 1 1;" + verb + " 0 0"), 2);
        }
    }

    private static void sizesFail() {
        CHECK.sentence(44, FAILS);
        CHECK.same("the smallest", executed("size 1 1"), 1);
        CHECK.same("the largest", executed("size 5 5"), 1);
        CHECK.same("the widest", executed("size 1 5"), 1);
        CHECK.same("the highest", executed("size 5 1"), 1);
        for (int number : new int[] {0, 6, 7, 8, 9}) {
            fails("size " + number + " 1", 0);
            fails("size 5 " + number, 0);
            fails("step;size " + number + " " + number, 1);
        }
    }

    private static void patternsAndStepsNeverFail() {
        CHECK.sentence(44, FAILS);
        for (char pattern : "+xos".toCharArray()) {
            GlowwormGrid grid = typed("pattern " + pattern).get();
            CHECK.same("pattern " + pattern, grid.execute(), 1);
            CHECK.same("set", grid.pattern(), pattern);
        }
        CHECK.same("steps without glowworms", executed("size 1 1;step;step"), 3);
        malformed("pattern n", 8);
        malformed("pattern *", 8);
        malformed("pattern ,", 8);
    }

    private static void wormsFail() {
        CHECK.sentence(44, FAILS);
        String three = "size 2 3;worm 0 0 n;worm 0 1 e;worm 0 2 s;";
        CHECK.same("four", executed(three + "worm 1 2 w"), 5);
        fails(three + "worm 0 0 n", 4);
        fails(three + "worm 2 0 n", 4);
        GlowwormGrid four = Make.busyWithWorms(4);
        Whole.outcome(four, GlowwormGrid::execute);
        Make.type(four, "worm 1 2 n");
        CHECK.same("a fifth", Whole.outcome(four, GlowwormGrid::execute), STATE.getName());
        CHECK.same("no fifth", four.wormCount(), 4);
        fails("size 2 2;worm 0 2 n", 1);
        fails("size 2 2;worm 1 1 n;worm 1 1 s", 2);
        malformed("worm 0 0 x", 9);
        malformed("worm 0 0 N", 9);
    }

    private static void solveFails() {
        CHECK.sentence(44, FAILS);
        CHECK.same("no light", executed("size 1 2;solve"), 2);
        fails("size 1 2;light 0 0;solve", 2);
        CHECK.same("two lights", executed("size 1 2;light 0 0;light 0 1;solve"), 4);
        CHECK.same("a light and its goal", executed("size 1 2;light 0 0;goal 0 0;solve"), 4);
        fails("size 1 2;goal 0 1;solve;step", 2);
    }

    private static void chaseFails() {
        CHECK.sentence(44, FAILS);
        CHECK.same("+", executed("pattern +;chase"), 2);
        for (char pattern : "xos".toCharArray()) {
            fails("pattern " + pattern + ";chase", 1);
        }
        CHECK.same("+ again", executed("pattern x;pattern +;chase"), 3);
        fails("chase;pattern s;step;chase", 3);
    }

    private static void commandsSeeTheEarlierOnes() {
        CHECK.sentence(44, "The commands stand for press, setLight with true and with false, toggleGoal, resize, "
                + "setPattern, addWorm, step, solve and chase, with their parameters in order.");
        CHECK.same("a cell that was not there before", executed("size 5 4;press 4 3"), 2);
        fails("size 5 4;press 3 4", 1);
        fails("size 4 5;press 4 3", 1);
        GlowwormGrid grid = typed("size 2 5;light 1 4;goal 0 3;worm 1 2 e;light 0 4;dark 0 4").get();
        CHECK.same("parameters", grid.execute(), 6);
        CHECK.same("row before column", Look.at(grid),
                "2x5+ lit ...../....* goals ...*./..... presses 00000/00000 worms 12e steps 1");
    }

    private static void commandsDoTheSame() {
        CHECK.sentence(44, "The commands stand for press, setLight with true and with false, toggleGoal, resize, "
                + "setPattern, addWorm, step, solve and chase, with their parameters in order.");
        sameEffect("press 2 1", grid -> grid.press(2, 1));
        sameEffect("light 2 1", grid -> grid.setLight(2, 1, true));
        sameEffect("light 2 1;light 2 1", grid -> grid.setLight(2, 1, true));
        sameEffect("dark 0 1", grid -> grid.setLight(0, 1, false));
        sameEffect("light 0 1;dark 0 1", grid -> grid.setLight(0, 1, false));
        sameEffect("goal 2 1", grid -> grid.toggleGoal(2, 1));
        sameEffect("goal 2 1;goal 2 1", grid -> { });
        sameEffect("goal 0 1;goal 2 1;goal 0 1", grid -> grid.toggleGoal(2, 1));
        sameEffect("size 2 1", grid -> grid.resize(2, 1));
        sameEffect("pattern o", grid -> grid.setPattern('o'));
        sameEffect("worm 2 1 w", grid -> grid.addWorm(2, 1, 'w'));
        sameEffect("step", GlowwormGrid::step);
        sameEffect("solve", GlowwormGrid::solve);
        sameEffect("chase", GlowwormGrid::chase);
    }

    private static void sameEffect(String text, Consumer<GlowwormGrid> call) {
        GlowwormGrid byText = Make.busy(3, 3, '+');
        GlowwormGrid byCall = Make.busy(3, 3, '+');
        byText.step();
        byCall.step();
        Make.execute(byText, text);
        call.accept(byCall);
        CHECK.same(text, Look.at(byText), Look.at(byCall));
        CHECK.same(text + ", by presses", Look.lightsByPresses(byText), Look.lightsByPresses(byCall));
    }

    private static void malformedBeforeFailing() {
        CHECK.sentence(44, "If several exceptions apply, the one that is documented first is thrown.");
        malformed("press 9 9;", 10);
        malformed("press 9 9;step;x", 15);
        malformed("size 0 0 ", 8);
        malformed("pattern s;chase;solved", 21);
    }

    private static void errorPositionFirstSign() {
        CHECK.sentence(45, ERROR_POSITION);
        malformed("?", 0);
        malformed("?step", 0);
        malformed(" step", 0);
        malformed(";", 0);
        malformed("step?", 4);
        malformed("step ", 4);
        malformed("step;?", 5);
        malformed("step;;", 5);
        malformed("step; step", 5);
        malformed("stepstep", 4);
        malformed("STEP", 0);
        malformed("stop;?", 2);
        malformed("press 0 0;dark 0 0;chasing", 23);
    }

    private static void errorPositionTooEarly() {
        CHECK.sentence(45, ERROR_POSITION);
        for (String command : complete()) {
            for (int length = 0; length < command.length(); length++) {
                checkPosition(command.substring(0, length), length);
            }
            checkPosition(command + ";", command.length() + 1);
        }
        malformed("s", 1);
        malformed("step;", 5);
        malformed("step;press 0 ", 13);
    }

    /** Behind each beginning of a command, each sign that can be typed: alone and as the second command. */
    private static void errorPositionEverySign() {
        CHECK.sentence(45, ERROR_POSITION);
        Set<String> commands = complete();
        Set<String> beginnings = new HashSet<>();
        for (String command : commands) {
            for (int length = 0; length <= command.length(); length++) {
                beginnings.add(command.substring(0, length));
            }
        }
        for (String beginning : beginnings) {
            for (char sign = 32; sign <= 126; sign++) {
                String text = beginning + sign;
                boolean goesOn = beginnings.contains(text) || sign == ';' && commands.contains(beginning);
                if (!commands.contains(text)) {
                    int position = goesOn ? text.length() : beginning.length();
                    checkPosition(text, position);
                    checkPosition("step;" + text, 5 + position);
                }
            }
        }
    }

    /** Each command that there is. */
    private static Set<String> complete() {
        Set<String> commands = new TreeSet<>(Set.of("step", "solve", "chase"));
        for (char pattern : "+xos".toCharArray()) {
            commands.add("pattern " + pattern);
        }
        for (int digits = 0; digits < 100; digits++) {
            String ends = " " + digits / 10 + " " + digits % 10;
            for (String verb : new String[] {"press", "light", "dark", "goal", "size"}) {
                commands.add(verb + ends);
            }
            for (char direction : "nesw".toCharArray()) {
                commands.add("worm" + ends + " " + direction);
            }
        }
        return commands;
    }

    private static void checkPosition(String text, int due) {
        GlowwormGrid grid = new GlowwormGrid();
        Make.type(grid, text);
        CHECK.same("<" + text + ">", Whole.outcome(grid, GlowwormGrid::execute), ARGUMENT.getName());
        CHECK.same("<" + text + ">", Whole.positionsOf(() -> grid), due + " " + NO_SUCH.getName());
    }

    private static void errorPositionNone() {
        CHECK.sentence(45, "Throws NoSuchElementException if no text was malformed so far");
        CHECK.refused("no text", NO_SUCH, GlowwormGrid::new, GlowwormGrid::errorPosition);
        CHECK.refused("a text that is not executed", NO_SUCH, () -> fresh("stop"), GlowwormGrid::errorPosition);
        CHECK.refused("a text that is executed", NO_SUCH, () -> attempted("step"), GlowwormGrid::errorPosition);
        CHECK.refused("a text that fails", NO_SUCH, () -> attempted("size 0 0"), GlowwormGrid::errorPosition);
        CHECK.same("a text that is malformed", attempted("stop").errorPosition(), 2);
        CHECK.same("at the first position", attempted("?").errorPosition(), 0);
    }

    private static void errorPositionOfTheLast() {
        CHECK.sentence(45, "Returns the error position of the last malformed text.");
        GlowwormGrid grid = attempted("stop");
        attempt(grid, FULL);
        CHECK.same("a later text is not malformed", grid.errorPosition(), 2);
        attempt(grid, "press 9 9");
        CHECK.same("a later text fails", grid.errorPosition(), 2);
        attempt(grid, ELEVEN_STEPS + "press");
        CHECK.same("a later one is malformed, the largest", grid.errorPosition(), 60);
        attempt(grid, "");
        CHECK.same("a later one is malformed, the smallest", grid.errorPosition(), 0);
        CHECK.same("asked again", grid.errorPosition(), 0);
    }

    private static void failedCommandNone() {
        CHECK.sentence(46, "Throws NoSuchElementException if no command failed so far");
        CHECK.refused("no text", NO_SUCH, GlowwormGrid::new, GlowwormGrid::failedCommand);
        CHECK.refused("a text that is not executed", NO_SUCH, () -> fresh("size 0 0"), GlowwormGrid::failedCommand);
        CHECK.refused("a text that is executed", NO_SUCH, () -> attempted("step"), GlowwormGrid::failedCommand);
        CHECK.refused("a malformed text", NO_SUCH, () -> attempted("size 0 0;"), GlowwormGrid::failedCommand);
        CHECK.refused("a call that fails", NO_SUCH, EdgeTextTest::afterFailedCall, GlowwormGrid::failedCommand);
        CHECK.same("a text that fails", attempted("size 0 0").failedCommand(), 0);
    }

    private static GlowwormGrid afterFailedCall() {
        GlowwormGrid grid = new GlowwormGrid();
        Whole.outcome(grid, made -> made.press(3, 0));
        return grid;
    }

    private static void failedCommandIndex() {
        CHECK.sentence(46, "Returns the index of the command, from 0.");
        for (int index = 0; index <= 10; index++) {
            fails(ELEVEN_STEPS.substring(0, 5 * index) + "press 3 0", index);
        }
        CHECK.same("the last of twelve", failedOfTwelve(), 11);
    }

    /** The pattern is not + any more, so that the twelfth command cannot be done. */
    private static int failedOfTwelve() {
        GlowwormGrid grid = Make.grid(2, 2, 'x');
        attempt(grid, FULL);
        return grid.failedCommand();
    }

    private static void failedCommandOfTheLast() {
        CHECK.sentence(46, "Returns the index of the command that failed in the last text that had one.");
        GlowwormGrid grid = attempted("step;step;press 9 9;size 0 0");
        CHECK.same("the first that fails", grid.failedCommand(), 2);
        attempt(grid, "step");
        CHECK.same("a later text is executed", grid.failedCommand(), 2);
        attempt(grid, "press 9 9;");
        CHECK.same("a later text is malformed", grid.failedCommand(), 2);
        attempt(grid, "press 9 9");
        CHECK.same("a later text fails", grid.failedCommand(), 0);
        CHECK.same("asked again", grid.failedCommand(), 0);
    }

    private static Supplier<GlowwormGrid> typed(String text) {
        return () -> {
            GlowwormGrid grid = Make.busy(3, 3, '+');
            Make.type(grid, text);
            return grid;
        };
    }

    private static GlowwormGrid fresh(String text) {
        GlowwormGrid grid = new GlowwormGrid();
        Make.type(grid, text);
        return grid;
    }

    private static GlowwormGrid attempted(String text) {
        GlowwormGrid grid = fresh(text);
        Whole.outcome(grid, GlowwormGrid::execute);
        return grid;
    }

    private static void attempt(GlowwormGrid grid, String text) {
        Whole.outcome(grid, made -> Make.execute(made, text));
    }

    private static int executed(String text) {
        return typed(text).get().execute();
    }

    private static void malformed(String text, int position) {
        refused(text, ARGUMENT, position + " 1");
    }

    private static void fails(String text, int command) {
        refused(text, STATE, "2 " + command);
    }

    /** The grid must hold what it would hold if the text had not been typed, but for the position. */
    private static void refused(String text, Class<? extends RuntimeException> due, String positions) {
        Supplier<GlowwormGrid> recipe = typed(text);
        CHECK.same("<" + text + ">", Whole.outcome(recipe.get(), GlowwormGrid::execute), due.getName());
        CHECK.same("<" + text + ">, afterwards", Whole.after(recipe, GlowwormGrid::execute), Whole.of(typed("")));
        CHECK.same("<" + text + ">, positions", Whole.positionsAfter(recipe, GlowwormGrid::execute), positions);
    }
}
