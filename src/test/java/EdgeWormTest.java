import java.util.NoSuchElementException;

/** The boundary cases of promises 29 to 37, a test for each sentence: glowworms. */
final class EdgeWormTest {
    private static final Check CHECK = new Check("EdgeWormTest");
    private static final Class<IndexOutOfBoundsException> INDEX = IndexOutOfBoundsException.class;
    private static final Class<IllegalArgumentException> ARGUMENT = IllegalArgumentException.class;
    private static final Class<IllegalStateException> STATE = IllegalStateException.class;
    private static final Class<NoSuchElementException> NO_SUCH = NoSuchElementException.class;
    private static final String NO_CELL = "Throws IndexOutOfBoundsException if there is no such cell";
    private static final String NO_WORM = "Throws IndexOutOfBoundsException if there is no such glowworm";
    private static final String MOVE = "if the next cell in its direction is in the grid and has no glowworm, the "
            + "glowworm moves there and presses that cell; otherwise it turns right by a quarter.";

    private EdgeWormTest() {
    }

    public static void main(String[] arguments) {
        addWormNoCell();
        addWormDirections();
        addWormNoDirection();
        addWormAtMostFour();
        addWormAlone();
        addWormFourOrTaken();
        addWormFirstException();
        removeWormLeft();
        removeWormNumbers();
        removeWormNoWorm();
        stepToTheEdge();
        stepAtTheEdge();
        stepTurnsAround();
        stepToAWorm();
        stepInOrder();
        stepAsTheEarlierLeftIt();
        stepCountsPresses();
        stepIsRecorded();
        wormCount();
        rowOfWormNoWorm();
        columnOfWormNoWorm();
        directionOfNoWorm();
        directionOf();
        wormInNoCell();
        wormInNone();
        wormInFirstException();
        stepCount();
        resizeKeepsSteps();
        CHECK.end();
    }

    private static void addWormNoCell() {
        CHECK.sentence(29, NO_CELL);
        GlowwormGrid grid = Make.grid(5, 5, '+');
        CHECK.same("first cell", grid.addWorm(0, 0, 'n'), 0);
        CHECK.same("last of the first row", grid.addWorm(0, 4, 'e'), 1);
        CHECK.same("first of the last row", grid.addWorm(4, 0, 's'), 2);
        CHECK.same("last cell", grid.addWorm(4, 4, 'w'), 3);
        CHECK.same("where they are", Look.worms(grid), "00n 04e 40s 44w");
        CHECK.same("only cell", Make.grid(1, 1, '+').addWorm(0, 0, 'n'), 0);
        Outside.cellsAreRefused(CHECK, (busy, row, column) -> busy.addWorm(row, column, 'n'));
    }

    private static void addWormDirections() {
        CHECK.sentence(29, "direction: its direction: n, e, s or w");
        for (char direction : "nesw".toCharArray()) {
            GlowwormGrid grid = new GlowwormGrid();
            CHECK.same("taken", grid.addWorm(2, 2, direction), 0);
            CHECK.same("looks", grid.directionOf(0), direction);
        }
    }

    private static void addWormNoDirection() {
        CHECK.sentence(29, "Throws IllegalArgumentException if there is no such direction");
        for (int sign = 0; sign < 300; sign++) {
            char direction = (char) sign;
            if ("nesw".indexOf(sign) < 0) {
                CHECK.refused("sign " + sign, ARGUMENT, () -> Make.busyWithWorms(3),
                        grid -> grid.addWorm(1, 2, direction));
            }
        }
        for (char direction : new char[] {'n' + 256, 'w' + 256, 32767, 32768, 65535}) {
            CHECK.refused("sign " + (int) direction, ARGUMENT, () -> Make.busyWithWorms(3),
                    grid -> grid.addWorm(1, 2, direction));
        }
    }

    private static void addWormAtMostFour() {
        CHECK.sentence(29, "There are at most 4 glowworms, numbered from 0 in the order in which they were added;");
        for (int count = 0; count < 4; count++) {
            GlowwormGrid grid = Make.busyWithWorms(count);
            CHECK.same("the next number", grid.addWorm(1, 2, 's'), count);
            CHECK.same("one more", grid.wormCount(), count + 1);
            CHECK.same("it is the last", grid.wormIn(1, 2), count);
        }
        CHECK.refused("a fifth", STATE, () -> Make.busyWithWorms(4), grid -> grid.addWorm(1, 2, 's'));
        GlowwormGrid grid = Make.busyWithWorms(4);
        grid.removeWorm(3);
        CHECK.same("a fourth again", grid.addWorm(1, 2, 's'), 3);
    }

    private static void addWormAlone() {
        CHECK.sentence(29, "A glowworm is in a cell, alone, and looks in a direction: n (up), e (right), s (down) or w "
                + "(left).");
        CHECK.same("beside another", Make.busyWithWorms(1).addWorm(0, 1, 'n'), 1);
        CHECK.refused("where the first is", STATE, () -> Make.busyWithWorms(3), grid -> grid.addWorm(0, 0, 'n'));
        CHECK.refused("where the last is", STATE, () -> Make.busyWithWorms(3), grid -> grid.addWorm(0, 2, 'w'));
        GlowwormGrid grid = Make.grid(1, 2, '+');
        grid.addWorm(0, 0, 'e');
        grid.step();
        CHECK.same("where it was", grid.addWorm(0, 0, 'e'), 1);
        CHECK.refused("where it went", STATE, EdgeWormTest::moved, moved -> moved.addWorm(0, 1, 's'));
        GlowwormGrid left = Make.busyWithWorms(2);
        left.removeWorm(0);
        CHECK.same("where one was removed", left.addWorm(0, 0, 's'), 1);
    }

    private static GlowwormGrid moved() {
        GlowwormGrid grid = Make.grid(1, 2, '+');
        grid.addWorm(0, 0, 'e');
        grid.step();
        return grid;
    }

    private static void addWormFourOrTaken() {
        CHECK.sentence(29, "Throws IllegalStateException if there are 4 glowworms, or there is a glowworm in the cell");
        CHECK.same("3 glowworms, a free cell", Make.busyWithWorms(3).addWorm(1, 0, 'n'), 3);
        CHECK.refused("4 glowworms, a free cell", STATE, () -> Make.busyWithWorms(4), grid -> grid.addWorm(1, 1, 'n'));
        CHECK.refused("3 glowworms, a taken cell", STATE, () -> Make.busyWithWorms(3), grid -> grid.addWorm(0, 1, 'n'));
        CHECK.refused("4 glowworms, a taken cell", STATE, () -> Make.busyWithWorms(4), grid -> grid.addWorm(1, 0, 'n'));
        CHECK.refused("1 glowworm, its cell", STATE, () -> Make.busyWithWorms(1), grid -> grid.addWorm(0, 0, 'n'));
    }

    private static void addWormFirstException() {
        CHECK.sentence(29, "If several exceptions apply, the one that is documented first is thrown.");
        for (int worms = 1; worms <= 4; worms++) {
            int count = worms;
            CHECK.refused("no cell, no direction", INDEX, () -> Make.busyWithWorms(count),
                    grid -> grid.addWorm(2, 0, 'x'));
            CHECK.refused("no cell", INDEX, () -> Make.busyWithWorms(count), grid -> grid.addWorm(0, 3, 'n'));
            CHECK.refused("no direction, taken", ARGUMENT, () -> Make.busyWithWorms(count),
                    grid -> grid.addWorm(0, 0, 'N'));
        }
        CHECK.refused("no direction, 4 glowworms", ARGUMENT, () -> Make.busyWithWorms(4),
                grid -> grid.addWorm(1, 2, 'o'));
    }

    private static void removeWormLeft() {
        CHECK.sentence(30, "Returns the number of glowworms that are left.");
        GlowwormGrid grid = Make.busyWithWorms(4);
        for (int left = 3; left >= 0; left--) {
            CHECK.same("left", grid.removeWorm(0), left);
            CHECK.same("count", grid.wormCount(), left);
        }
        CHECK.same("the first again", grid.addWorm(1, 2, 'n'), 0);
    }

    private static void removeWormNumbers() {
        CHECK.sentence(30, "when one is removed, the numbers of the later ones decrease by 1.");
        String[] due = {"01n 02n 10n", "00n 02n 10n", "00n 01n 10n", "00n 01n 02n"};
        for (int worm = 0; worm < 4; worm++) {
            GlowwormGrid grid = Make.busyWithWorms(4);
            grid.removeWorm(worm);
            CHECK.same("without glowworm " + worm, Look.worms(grid), due[worm]);
            CHECK.same("a new one is the last", grid.addWorm(1, 2, 's'), 3);
            CHECK.same("behind the others", Look.worms(grid), due[worm] + " 12s");
        }
        GlowwormGrid single = Make.busyWithWorms(1);
        single.removeWorm(0);
        CHECK.same("none is left", Look.worms(single), "");
    }

    private static void removeWormNoWorm() {
        CHECK.sentence(30, NO_WORM);
        CHECK.same("the first of four", Make.busyWithWorms(4).removeWorm(0), 3);
        CHECK.same("the last of four", Make.busyWithWorms(4).removeWorm(3), 3);
        CHECK.same("the only one", Make.busyWithWorms(1).removeWorm(0), 0);
        Outside.wormsAreRefused(CHECK, GlowwormGrid::removeWorm);
    }

    private static void stepToTheEdge() {
        CHECK.sentence(31, MOVE);
        stepped("1 of 5 rows", 1, 2, 'n', 1, "02n");
        stepped("row 3 of 5", 3, 2, 's', 1, "42s");
        stepped("column 1 of 5", 2, 1, 'w', 1, "20w");
        stepped("column 3 of 5", 2, 3, 'e', 1, "24e");
        stepped("to the first cell", 0, 1, 'w', 1, "00w");
        stepped("to the last cell", 3, 4, 's', 1, "44s");
    }

    private static void stepAtTheEdge() {
        CHECK.sentence(31, MOVE);
        for (int place = 0; place < 5; place++) {
            stepped("first row", 0, place, 'n', 0, "0" + place + "e");
            stepped("last column", place, 4, 'e', 0, place + "4s");
            stepped("last row", 4, place, 's', 0, "4" + place + "w");
            stepped("first column", place, 0, 'w', 0, place + "0n");
        }
    }

    private static void stepped(String what, int row, int column, char direction, int presses, String due) {
        GlowwormGrid grid = Make.grid(5, 5, 's');
        grid.addWorm(row, column, direction);
        CHECK.same(what + ", presses", grid.step(), presses);
        CHECK.same(what + ", worm", Look.worms(grid), due);
        CHECK.same(what + ", lights", grid.litCount(), presses);
        CHECK.same(what + ", its light", grid.isLit(grid.rowOfWorm(0), grid.columnOfWorm(0)) ? 1 : 0, presses);
    }

    private static void stepTurnsAround() {
        CHECK.sentence(31, MOVE);
        GlowwormGrid grid = Make.grid(1, 1, '+');
        grid.addWorm(0, 0, 'n');
        for (char due : "eswneswn".toCharArray()) {
            CHECK.same("no press", grid.step(), 0);
            CHECK.same("turned, behind w comes n", grid.directionOf(0), due);
        }
        CHECK.same("no light", grid.litCount(), 0);
    }

    private static void stepToAWorm() {
        CHECK.sentence(31, MOVE);
        String[] due = {"11e", "11s", "11w", "11n"};
        int[][] next = {{0, 1}, {1, 2}, {2, 1}, {1, 0}};
        for (int index = 0; index < 4; index++) {
            GlowwormGrid grid = Make.grid(3, 3, '+');
            grid.addWorm(1, 1, "nesw".charAt(index));
            grid.addWorm(next[index][0], next[index][1], "nesw".charAt(index));
            CHECK.same("no press", grid.step(), 0);
            CHECK.same("turned", Look.worms(grid).substring(0, 3), due[index]);
        }
        for (int index = 0; index < 4; index++) {
            GlowwormGrid grid = Make.grid(3, 3, '+');
            grid.addWorm(1, 1, "nesw".charAt(index));
            grid.addWorm(next[index][0], next[index][1], 'n');
            grid.removeWorm(1);
            CHECK.same("free again", grid.step(), 1);
        }
    }

    private static void stepInOrder() {
        CHECK.sentence(31, "In a step, the glowworms act in the order of their numbers:");
        GlowwormGrid grid = Make.grid(1, 3, 's');
        grid.addWorm(0, 0, 'e');
        grid.addWorm(0, 2, 'w');
        CHECK.same("presses", grid.step(), 1);
        CHECK.same("the first one took the cell", Look.worms(grid), "01e 02n");
        grid = Make.grid(1, 3, 's');
        grid.addWorm(0, 2, 'w');
        grid.addWorm(0, 0, 'e');
        grid.step();
        CHECK.same("also from the other side", Look.worms(grid), "01w 00s");
        grid = Make.grid(1, 4, 's');
        grid.addWorm(0, 1, 'n');
        grid.addWorm(0, 0, 'e');
        grid.addWorm(0, 3, 'w');
        grid.removeWorm(0);
        grid.step();
        CHECK.same("by the numbers of now", Look.worms(grid), "01e 02w");
    }

    private static void stepAsTheEarlierLeftIt() {
        CHECK.sentence(31, "Each glowworm acts in the grid as the earlier ones have left it in this step.");
        GlowwormGrid freed = Make.grid(1, 5, 's');
        for (int column = 3; column >= 0; column--) {
            freed.addWorm(0, column, 'e');
        }
        CHECK.same("each cell was left just before", freed.step(), 4);
        CHECK.same("all moved", Look.worms(freed), "04e 03e 02e 01e");
        GlowwormGrid later = Make.grid(1, 5, 's');
        for (int column = 0; column <= 3; column++) {
            later.addWorm(0, column, 'e');
        }
        CHECK.same("each cell is left too late but one", later.step(), 1);
        CHECK.same("one moved", Look.worms(later), "00s 01s 02s 04e");
        GlowwormGrid swap = Make.grid(1, 2, 's');
        swap.addWorm(0, 0, 'e');
        swap.addWorm(0, 1, 'w');
        CHECK.same("none changes places", swap.step(), 0);
        CHECK.same("both turned", Look.worms(swap), "00s 01n");
    }

    private static void stepCountsPresses() {
        CHECK.sentence(31, "Returns the number of presses.");
        CHECK.same("no glowworms", new GlowwormGrid().step(), 0);
        GlowwormGrid grid = Make.grid(2, 4, 's');
        for (int column = 0; column < 4; column++) {
            grid.addWorm(1, column, 'n');
        }
        CHECK.same("four of four", grid.step(), 4);
        CHECK.same("none of four", grid.step(), 0);
        CHECK.same("only the last", grid.step(), 0);
        CHECK.same("turned down", Look.worms(grid), "00s 01s 02s 03s");
    }

    private static void stepIsRecorded() {
        CHECK.sentence(31, "Presses that are made by solve, chase and step are recorded, too.");
        GlowwormGrid grid = Make.grid(1, 5, '+');
        grid.addWorm(0, 3, 'e');
        grid.step();
        CHECK.same("a press", Look.presses(grid), "00001");
        grid.step();
        CHECK.same("a turn is none", Look.presses(grid), "00001");
        CHECK.same("by presses", Look.lightsByPresses(grid), "...**");
    }

    private static void wormCount() {
        CHECK.sentence(32, "Returns the number of glowworms.");
        for (int worms = 0; worms <= 4; worms++) {
            CHECK.same("of " + worms, Make.busyWithWorms(worms).wormCount(), worms);
        }
        GlowwormGrid grid = Make.busyWithWorms(4);
        Whole.outcome(grid, full -> full.addWorm(1, 2, 'n'));
        CHECK.same("after a refused one", grid.wormCount(), 4);
        grid.resize(2, 3);
        CHECK.same("after a new size", grid.wormCount(), 0);
    }

    private static void rowOfWormNoWorm() {
        CHECK.sentence(33, NO_WORM);
        CHECK.same("the first", Make.busyWithWorms(4).rowOfWorm(0), 0);
        CHECK.same("the last of four", Make.busyWithWorms(4).rowOfWorm(3), 1);
        CHECK.same("the largest row", cornerWorm().rowOfWorm(0), 4);
        Outside.wormsAreRefused(CHECK, GlowwormGrid::rowOfWorm);
    }

    private static void columnOfWormNoWorm() {
        CHECK.sentence(34, NO_WORM);
        CHECK.same("the first", Make.busyWithWorms(4).columnOfWorm(0), 0);
        CHECK.same("the third", Make.busyWithWorms(4).columnOfWorm(2), 2);
        CHECK.same("the last of four", Make.busyWithWorms(4).columnOfWorm(3), 0);
        CHECK.same("the largest column", cornerWorm().columnOfWorm(0), 4);
        Outside.wormsAreRefused(CHECK, GlowwormGrid::columnOfWorm);
    }

    private static GlowwormGrid cornerWorm() {
        GlowwormGrid grid = Make.grid(5, 5, '+');
        grid.addWorm(4, 4, 's');
        return grid;
    }

    private static void directionOfNoWorm() {
        CHECK.sentence(35, NO_WORM);
        GlowwormGrid grid = Make.busyWithWorms(3);
        grid.addWorm(1, 2, 'w');
        CHECK.same("the first", grid.directionOf(0), 'n');
        CHECK.same("the last of four", grid.directionOf(3), 'w');
        Outside.wormsAreRefused(CHECK, GlowwormGrid::directionOf);
    }

    private static void directionOf() {
        CHECK.sentence(35, "Returns n, e, s or w.");
        GlowwormGrid grid = Make.grid(1, 1, 's');
        grid.addWorm(0, 0, 'w');
        StringBuilder seen = new StringBuilder();
        for (int step = 0; step < 5; step++) {
            seen.append(grid.directionOf(0));
            grid.step();
        }
        CHECK.same("all around", seen.toString(), "wnesw");
    }

    private static void wormInNoCell() {
        CHECK.sentence(36, NO_CELL);
        GlowwormGrid grid = cornerWorm();
        grid.addWorm(0, 0, 'n');
        CHECK.same("first cell", grid.wormIn(0, 0), 1);
        CHECK.same("last cell", grid.wormIn(4, 4), 0);
        Outside.cellsAreRefused(CHECK, GlowwormGrid::wormIn);
    }

    private static void wormInNone() {
        CHECK.sentence(36, "Throws NoSuchElementException if there is no glowworm in it");
        CHECK.same("the first of four", Make.busyWithWorms(4).wormIn(0, 0), 0);
        CHECK.same("the last of four", Make.busyWithWorms(4).wormIn(1, 0), 3);
        CHECK.refused("beside the last", NO_SUCH, () -> Make.busyWithWorms(4), grid -> grid.wormIn(1, 1));
        CHECK.refused("the fourth is not there", NO_SUCH, () -> Make.busyWithWorms(3), grid -> grid.wormIn(1, 0));
        CHECK.refused("none at all", NO_SUCH, () -> Make.busyWithWorms(0), grid -> grid.wormIn(0, 0));
        CHECK.same("where it went", moved().wormIn(0, 1), 0);
        CHECK.refused("where it was", NO_SUCH, EdgeWormTest::moved, grid -> grid.wormIn(0, 0));
        GlowwormGrid removed = Make.busyWithWorms(2);
        removed.removeWorm(1);
        CHECK.same("removed", Whole.outcome(removed, grid -> grid.wormIn(0, 1)), NO_SUCH.getName());
    }

    private static void wormInFirstException() {
        CHECK.sentence(36, "If several exceptions apply, the one that is documented first is thrown.");
        CHECK.refused("no glowworm", NO_SUCH, () -> Make.busyWithWorms(0), grid -> grid.wormIn(1, 2));
        CHECK.refused("no cell either", INDEX, () -> Make.busyWithWorms(0), grid -> grid.wormIn(1, 3));
        CHECK.refused("no cell either", INDEX, () -> Make.busyWithWorms(0), grid -> grid.wormIn(2, 2));
    }

    private static void stepCount() {
        CHECK.sentence(37, "Returns the number of steps so far.");
        GlowwormGrid grid = new GlowwormGrid();
        CHECK.same("none", grid.stepCount(), 0);
        for (int step = 1; step <= 300; step++) {
            grid.step();
        }
        CHECK.same("300, without glowworms", grid.stepCount(), 300);
        Make.execute(grid, "step;step");
        CHECK.same("2 more by a text", grid.stepCount(), 302);
        Make.type(grid, "step;solve;step;size 9 9");
        Whole.outcome(grid, GlowwormGrid::execute);
        CHECK.same("none by a text that fails", grid.stepCount(), 302);
    }

    private static void resizeKeepsSteps() {
        CHECK.sentence(37, "Resizing does not change the number of steps.");
        GlowwormGrid grid = new GlowwormGrid();
        grid.resize(1, 1);
        CHECK.same("none", grid.stepCount(), 0);
        grid.step();
        grid.resize(5, 5);
        CHECK.same("one", grid.stepCount(), 1);
        grid.resize(5, 5);
        CHECK.same("one, the same size", grid.stepCount(), 1);
    }
}
