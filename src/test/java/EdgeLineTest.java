/** The boundary cases of promises 38 to 42, a test for each sentence: lines, statistics and checks. */
final class EdgeLineTest {
    private static final Check CHECK = new Check("EdgeLineTest");
    private static final Class<IndexOutOfBoundsException> INDEX = IndexOutOfBoundsException.class;

    private EdgeLineTest() {
    }

    public static void main(String[] arguments) throws ReflectiveOperationException {
        writeRowSigns();
        writeRowReplaces();
        writeRowLength();
        writeRowNoRow();
        lineAtFirst();
        lineAtNoCharacter();
        meanPresses();
        meanPressesOfRecord();
        litShare();
        isConsistent();
        isConsistentAfterRefusals();
        isNotConsistent();
        CHECK.end();
    }

    private static void writeRowSigns() {
        CHECK.sentence(38, "for each cell \"*\" if its light is lit and \".\" if not, and \"!\" behind it if its light is "
                + "not like its goal; for example \"*.!.\".");
        String[] due = {".", ".!", "*!", "*"};
        for (int index = 0; index < 4; index++) {
            GlowwormGrid grid = Make.grid(1, 1, '+');
            grid.setLight(0, 0, index >= 2);
            if (index % 2 == 1) {
                grid.toggleGoal(0, 0);
            }
            CHECK.same("length", grid.writeRow(0), due[index].length());
            CHECK.same("one cell", Look.line(grid, due[index].length()), due[index]);
        }
        GlowwormGrid example = Make.lit('+', "*..");
        example.toggleGoal(0, 0);
        example.toggleGoal(0, 1);
        CHECK.same("the example", example.writeRow(0), 4);
        CHECK.same("the example", Look.line(example, 4), "*.!.");
    }

    private static void writeRowReplaces() {
        CHECK.sentence(38, "Writes a row into the line, which replaces the previous line:");
        GlowwormGrid grid = Make.lit('+', "*****", ".....");
        grid.writeRow(0);
        CHECK.same("a shorter line", grid.writeRow(1), 5);
        CHECK.same("nothing is left of the longer one", Whole.line(grid), ".....");
        CHECK.same("a longer line", grid.writeRow(0), 10);
        CHECK.same("all of the longer one", Whole.line(grid), "*!*!*!*!*!");
        grid.resize(1, 1);
        CHECK.same("another size keeps it", Whole.line(grid), "*!*!*!*!*!");
        CHECK.same("the shortest line", grid.writeRow(0), 1);
        CHECK.same("the shortest line", Whole.line(grid), ".");
    }

    private static void writeRowLength() {
        CHECK.sentence(38, "Returns the length of the line.");
        CHECK.same("the shortest", Make.grid(1, 1, '+').writeRow(0), 1);
        CHECK.same("the shortest of 5 columns", Make.grid(1, 5, '+').writeRow(0), 5);
        CHECK.same("the longest", Make.full(1, 5, '+').writeRow(0), 10);
        for (int lights = 0; lights <= 5; lights++) {
            GlowwormGrid grid = Make.grid(5, 5, '+');
            for (int column = 0; column < lights; column++) {
                grid.setLight(4, column, true);
            }
            CHECK.same("with " + lights + " that differ", grid.writeRow(4), 5 + lights);
        }
    }

    private static void writeRowNoRow() {
        CHECK.sentence(38, "Throws IndexOutOfBoundsException if there is no such row");
        GlowwormGrid grid = Make.lit('+', "*.", "..", "..", "..", ".*");
        CHECK.same("first", grid.writeRow(0), 3);
        CHECK.same("first", Whole.line(grid), "*!.");
        CHECK.same("last", grid.writeRow(4), 3);
        CHECK.same("last", Whole.line(grid), ".*!");
        Outside.rowsAreRefused(CHECK, GlowwormGrid::writeRow);
    }

    private static void lineAtFirst() {
        CHECK.sentence(39, "Returns a character of the line, which is empty at first.");
        for (int index : new int[] {0, -1, 1, 10}) {
            CHECK.refused("at first " + index, INDEX, GlowwormGrid::new, grid -> grid.lineAt(index));
        }
        CHECK.refused("not written by changes", INDEX, () -> Make.full(5, 5, '+'), grid -> grid.lineAt(0));
        GlowwormGrid grid = new GlowwormGrid();
        Whole.outcome(grid, refused -> refused.writeRow(3));
        CHECK.same("after a refused row", Whole.line(grid), "");
        grid.writeRow(2);
        CHECK.same("after a row", Whole.line(grid), "...");
    }

    private static void lineAtNoCharacter() {
        CHECK.sentence(39, "Throws IndexOutOfBoundsException if there is no such character");
        for (int length = 1; length <= 10; length++) {
            int size = length;
            CHECK.same("first of " + length, lineOf(length).lineAt(0), length > 5 ? '*' : '.');
            CHECK.same("last of " + length, lineOf(length).lineAt(length - 1), length == 10 ? '!' : '.');
            for (int index : new int[] {-1, length, length + 1, 10, Integer.MIN_VALUE, Integer.MAX_VALUE}) {
                CHECK.refused(index + " of " + length, INDEX, () -> lineOf(size), grid -> grid.lineAt(index));
            }
        }
    }

    /** The grid's line has this length, and a longer one has been written before it. */
    private static GlowwormGrid lineOf(int length) {
        GlowwormGrid grid = Make.full(1, 5, '+');
        grid.writeRow(0);
        grid.resize(1, Math.min(length, 5));
        for (int column = 0; column < length - 5; column++) {
            grid.setLight(0, column, true);
        }
        grid.writeRow(0);
        return grid;
    }

    private static void meanPresses() {
        CHECK.sentence(40, "Returns the sum of the presses divided by the number of cells, both converted to double.");
        CHECK.same("none", Make.grid(5, 5, '+').meanPresses(), 0.0);
        GlowwormGrid largest = Make.grid(5, 5, '+');
        largest.press(4, 4);
        CHECK.same("one of 25", largest.meanPresses(), 1.0 / 25.0);
        largest.press(0, 0);
        largest.press(0, 0);
        CHECK.same("three of 25", largest.meanPresses(), 3.0 / 25.0);
        GlowwormGrid single = Make.grid(1, 1, '+');
        for (int press = 1; press <= 300; press++) {
            single.press(0, 0);
        }
        CHECK.same("300 of 1", single.meanPresses(), 300.0);
        GlowwormGrid thirds = Make.grid(1, 3, '+');
        thirds.press(0, 0);
        CHECK.same("a third, as a double", thirds.meanPresses(), 1.0 / 3.0);
    }

    private static void meanPressesOfRecord() {
        CHECK.sentence(40, "Returns the mean number of recorded presses of a cell.");
        GlowwormGrid grid = Make.full(2, 2, 's');
        grid.solve();
        CHECK.same("each once", grid.meanPresses(), 1.0);
        grid.addWorm(0, 0, 'e');
        grid.step();
        CHECK.same("and a step", grid.meanPresses(), 1.25);
        grid.undo();
        CHECK.same("undone", grid.meanPresses(), 1.0);
        grid.setPattern('s');
        CHECK.same("a new record", grid.meanPresses(), 0.0);
    }

    private static void litShare() {
        CHECK.sentence(41, "Returns their number divided by the number of cells, both converted to float.");
        CHECK.same("none of 25", (double) Make.grid(5, 5, '+').litShare(), 0.0);
        CHECK.same("all of 25", (double) Make.full(5, 5, '+').litShare(), 1.0);
        CHECK.same("none of 1", (double) Make.grid(1, 1, '+').litShare(), 0.0);
        CHECK.same("all of 1", (double) Make.full(1, 1, '+').litShare(), 1.0);
        GlowwormGrid grid = Make.full(5, 5, '+');
        grid.setLight(4, 4, false);
        CHECK.same("all but one", (double) grid.litShare(), (double) (24f / 25f));
        CHECK.same("a third, as a float", (double) Make.lit('+', "*..").litShare(), (double) (1f / 3f));
        CHECK.no("a third, not as a double", Make.lit('+', "*..").litShare() == 1.0 / 3.0);
    }

    private static void isConsistent() {
        CHECK.sentence(42, "Returns whether the grid is consistent: isLit and isLitByPresses agree for all cells, "
                + "isSolvable and isSolvableByParity agree, and no two glowworms are in one cell.");
        for (char pattern : "+xos".toCharArray()) {
            CHECK.yes("the smallest, empty", Make.grid(1, 1, pattern).isConsistent());
            CHECK.yes("the smallest, full", Make.full(1, 1, pattern).isConsistent());
            CHECK.yes("the largest, empty", Make.grid(5, 5, pattern).isConsistent());
            CHECK.yes("the largest, full", Make.full(5, 5, pattern).isConsistent());
            CHECK.yes("busy", Make.busy(5, 5, pattern).isConsistent());
        }
        CHECK.yes("unsolvable", Make.lit('+', "*.").isConsistent());
        CHECK.yes("no glowworms", Make.busyWithWorms(0).isConsistent());
        CHECK.yes("4 glowworms", Make.busyWithWorms(4).isConsistent());
        GlowwormGrid crowd = Make.grid(2, 2, 'o');
        for (int worm = 0; worm < 4; worm++) {
            crowd.addWorm(worm / 2, worm % 2, "nesw".charAt(worm));
        }
        crowd.step();
        CHECK.yes("a glowworm in each cell", crowd.isConsistent());
    }

    private static void isConsistentAfterRefusals() {
        CHECK.sentence(42, "A method that throws an exception leaves the state unchanged, except that execute empties "
                + "the text buffer.");
        GlowwormGrid grid = Make.busyWithWorms(4);
        Whole.outcome(grid, full -> full.addWorm(0, 0, 'n'));
        Whole.outcome(grid, full -> full.press(2, 0));
        Whole.outcome(grid, full -> full.setLight(0, 3, true));
        Whole.outcome(grid, full -> full.resize(0, 0));
        CHECK.yes("after refused calls", grid.isConsistent());
    }

    private static void isNotConsistent() throws ReflectiveOperationException {
        CHECK.sentence(42, "Returns whether this holds.");
        // The cells' numbers in the program: row * 6 + column.
        for (int cell : new int[] {0, 4, 6, 24, 28}) {
            GlowwormGrid grid = Make.busy(5, 5, '+');
            CHECK.yes("isLit and isLitByPresses agree", grid.isConsistent());
            Damage.recordOf(grid, cell);
            CHECK.no("not in cell " + cell, grid.isConsistent());
        }
        for (int pair = 1; pair < 16; pair++) {
            int worm = pair / 4;
            if (worm != pair % 4) {
                GlowwormGrid grid = Make.busyWithWorms(4);
                CHECK.yes("no two glowworms in one cell", grid.isConsistent());
                Damage.moveWorm(grid, worm, pair % 4);
                CHECK.no("glowworm " + worm + " in that of " + pair % 4, grid.isConsistent());
            }
        }
    }
}
