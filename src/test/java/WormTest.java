import java.util.NoSuchElementException;

/** Promises 29 to 37: glowworms. */
final class WormTest {
    private static final Check CHECK = new Check("WormTest");
    private static final Class<IndexOutOfBoundsException> INDEX = IndexOutOfBoundsException.class;
    private static final Class<IllegalArgumentException> ARGUMENT = IllegalArgumentException.class;
    private static final Class<IllegalStateException> STATE = IllegalStateException.class;

    private WormTest() {
    }

    public static void main(String[] arguments) {
        add();
        addRefused();
        addWrongCells();
        remove();
        wrongWorms();
        stepWithout();
        stepAllWays();
        turnAtEdges();
        turnAtWorms();
        wormsActInOrder();
        stepPressesWithPattern();
        wormIn();
        stepCount();
        CHECK.end();
    }

    private static void add() {
        GlowwormGrid grid = Make.grid(2, 5, '+');
        CHECK.same("32: none", grid.wormCount(), 0);
        CHECK.same("29: first", grid.addWorm(1, 4, 'n'), 0);
        CHECK.same("29: second", grid.addWorm(0, 0, 'e'), 1);
        CHECK.same("29: third", grid.addWorm(0, 4, 's'), 2);
        CHECK.same("32: three", grid.wormCount(), 3);
        CHECK.same("29: fourth", grid.addWorm(1, 0, 'w'), 3);
        CHECK.same("32: four", grid.wormCount(), 4);
        CHECK.same("33, 34, 35: worms", Look.worms(grid), "14n 00e 04s 10w");
        CHECK.same("29: no press", Look.presses(grid), "00000/00000");
        CHECK.same("36: cells", Look.wormCells(grid), "1...2/3...0");
    }

    private static void addRefused() {
        for (char sign : new char[] {'x', 'N', 'o', ' ', 0, 'z', (char) ('n' + 256), (char) 65535}) {
            GlowwormGrid grid = Make.grid(2, 2, '+');
            grid.addWorm(0, 0, 'n');
            CHECK.refused("29: direction " + (int) sign, ARGUMENT, grid, () -> grid.addWorm(1, 1, sign));
            CHECK.refused("29: cell before direction", INDEX, grid, () -> grid.addWorm(2, 1, sign));
            CHECK.refused("29: direction before worm", ARGUMENT, grid, () -> grid.addWorm(0, 0, sign));
        }
        GlowwormGrid grid = Make.grid(3, 3, '+');
        grid.addWorm(1, 1, 'n');
        CHECK.refused("29: taken", STATE, grid, () -> grid.addWorm(1, 1, 's'));
        grid.addWorm(0, 0, 'n');
        grid.addWorm(0, 1, 'n');
        grid.addWorm(0, 2, 'n');
        CHECK.refused("29: a fifth", STATE, grid, () -> grid.addWorm(2, 2, 's'));
        GlowwormGrid full = grid;
        CHECK.refused("29: a fifth in no cell", INDEX, grid, () -> full.addWorm(3, 2, 's'));
        CHECK.refused("29: a fifth that looks nowhere", ARGUMENT, grid, () -> full.addWorm(2, 2, 'a'));
        grid.removeWorm(0);
        CHECK.same("29: room again", grid.addWorm(1, 1, 's'), 3);
    }

    private static void addWrongCells() {
        int[][] wrong = {{2, 0}, {0, 3}, {-1, 0}, {0, -1}, {1, 6}, {-1, 6}, {Integer.MAX_VALUE, 0},
                {0, Integer.MIN_VALUE}};
        for (int[] cell : wrong) {
            GlowwormGrid grid = Make.grid(2, 3, '+');
            grid.addWorm(1, 1, 'e');
            String where = " " + cell[0] + " " + cell[1];
            CHECK.refused("29:" + where, INDEX, grid, () -> grid.addWorm(cell[0], cell[1], 'n'));
            CHECK.refused("36:" + where, INDEX, grid, () -> grid.wormIn(cell[0], cell[1]));
        }
    }

    private static void remove() {
        GlowwormGrid grid = Make.grid(3, 3, '+');
        grid.addWorm(0, 0, 'n');
        grid.addWorm(0, 1, 'e');
        grid.addWorm(1, 0, 's');
        grid.addWorm(1, 1, 'w');
        CHECK.same("30: three left", grid.removeWorm(1), 3);
        CHECK.same("30: later ones move up", Look.worms(grid), "00n 10s 11w");
        CHECK.same("36: later ones move up", Look.wormCells(grid), "0../12./...");
        CHECK.same("30: two left", grid.removeWorm(2), 2);
        CHECK.same("30: the last is gone", Look.worms(grid), "00n 10s");
        CHECK.same("30: one left", grid.removeWorm(0), 1);
        CHECK.same("30: the first is gone", Look.worms(grid), "10s");
        CHECK.same("30: none left", grid.removeWorm(0), 0);
        CHECK.same("32: none left", grid.wormCount(), 0);
    }

    private static void wrongWorms() {
        for (int worm : new int[] {-1, 2, 3, 4, 5, Integer.MIN_VALUE, Integer.MAX_VALUE}) {
            GlowwormGrid grid = Make.grid(2, 2, '+');
            grid.addWorm(0, 0, 'n');
            grid.addWorm(1, 1, 'n');
            CHECK.refused("30: " + worm, INDEX, grid, () -> grid.removeWorm(worm));
            CHECK.refused("33: " + worm, INDEX, grid, () -> grid.rowOfWorm(worm));
            CHECK.refused("34: " + worm, INDEX, grid, () -> grid.columnOfWorm(worm));
            CHECK.refused("35: " + worm, INDEX, grid, () -> grid.directionOf(worm));
        }
        GlowwormGrid empty = new GlowwormGrid();
        CHECK.refused("30: none", INDEX, empty, () -> empty.removeWorm(0));
        CHECK.refused("33: none", INDEX, empty, () -> empty.rowOfWorm(0));
    }

    private static void stepWithout() {
        GlowwormGrid grid = Make.lit('+', "*.", "..");
        CHECK.same("31: without worms", grid.step(), 0);
        CHECK.same("37: it is a step", grid.stepCount(), 1);
        CHECK.same("31: nothing pressed", Look.lights(grid), "*./..");
    }

    private static void stepAllWays() {
        stepped('n', "12n", "..*../.***./..*../...../.....");
        stepped('e', "23e", "...../...*./..***/...*./.....");
        stepped('s', "32s", "...../...../..*../.***./..*..");
        stepped('w', "21w", "...../.*.../***../.*.../.....");
    }

    private static void stepped(char direction, String worm, String lights) {
        GlowwormGrid grid = Make.grid(5, 5, '+');
        grid.addWorm(2, 2, direction);
        CHECK.same("31: " + direction, grid.step(), 1);
        CHECK.same("33, 34, 35: " + direction, Look.worms(grid), worm);
        CHECK.same("31: lights " + direction, Look.lights(grid), lights);
        CHECK.same("31: pressed once " + direction, Look.presses(grid).replaceAll("[0/]", ""), "1");
        CHECK.same("31: pressed there " + direction, grid.pressesOf(grid.rowOfWorm(0), grid.columnOfWorm(0)), 1);
    }

    private static void turnAtEdges() {
        for (int side = 1; side <= 5; side++) {
            GlowwormGrid grid = Make.grid(side, side, 's');
            grid.addWorm(0, 0, 'n');
            StringBuilder due = new StringBuilder();
            StringBuilder got = new StringBuilder();
            for (char direction : new char[] {'e', 's', 'w', 'n'}) {
                CHECK.same("31: a turn presses nothing", grid.step(), 0);
                got.append(grid.directionOf(0));
                due.append(direction);
                for (int move = 1; move < side; move++) {
                    CHECK.same("31: along the edge", grid.step(), 1);
                }
            }
            CHECK.same("35: turned right, side " + side, got.toString(), due.toString());
            CHECK.same("31: once around, side " + side, Look.worms(grid), "00n");
            CHECK.same("37: steps, side " + side, grid.stepCount(), 4 * side);
            CHECK.same("31: presses, side " + side, Math.round(grid.meanPresses() * side * side), 4 * (side - 1));
        }
    }

    private static void turnAtWorms() {
        GlowwormGrid grid = Make.grid(1, 3, '+');
        grid.addWorm(0, 1, 'e');
        grid.addWorm(0, 2, 'w');
        CHECK.same("31: both turn", grid.step(), 0);
        CHECK.same("31: both turn", Look.worms(grid), "01s 02n");
        CHECK.same("31: no press", Look.lights(grid), "...");
    }

    private static void wormsActInOrder() {
        GlowwormGrid grid = Make.grid(1, 5, 's');
        grid.addWorm(0, 2, 'e');
        grid.addWorm(0, 1, 'e');
        grid.addWorm(0, 0, 'e');
        CHECK.same("31: each follows the one before it", grid.step(), 3);
        CHECK.same("31: each follows the one before it", Look.worms(grid), "03e 02e 01e");
        grid = Make.grid(1, 5, 's');
        grid.addWorm(0, 0, 'e');
        grid.addWorm(0, 1, 'e');
        grid.addWorm(0, 2, 'e');
        CHECK.same("31: each stops behind the one after it", grid.step(), 1);
        CHECK.same("31: each stops behind the one after it", Look.worms(grid), "00s 01s 03e");
        grid = Make.grid(1, 3, 's');
        grid.addWorm(0, 0, 'e');
        grid.addWorm(0, 2, 'w');
        CHECK.same("31: the first takes the cell", grid.step(), 1);
        CHECK.same("31: the first takes the cell", Look.worms(grid), "01e 02n");
    }

    private static void stepPressesWithPattern() {
        GlowwormGrid grid = Make.lit('x', "...", ".*.", "...");
        grid.toggleGoal(2, 2);
        grid.addWorm(1, 0, 'e');
        grid.addWorm(0, 1, 'w');
        CHECK.same("31: two presses", grid.step(), 2);
        CHECK.same("31: lights with x", Look.lights(grid), "..*/.*./*.*");
        CHECK.same("17: goals as before", Look.goals(grid), ".../.../..*");
    }

    private static void wormIn() {
        GlowwormGrid grid = Make.grid(2, 2, '+');
        CHECK.refused("36: none", NoSuchElementException.class, grid, () -> grid.wormIn(0, 0));
        grid.addWorm(0, 0, 'e');
        grid.addWorm(1, 1, 'w');
        CHECK.same("36: first", grid.wormIn(0, 0), 0);
        CHECK.same("36: second", grid.wormIn(1, 1), 1);
        CHECK.refused("36: none there", NoSuchElementException.class, grid, () -> grid.wormIn(0, 1));
        grid.step();
        CHECK.same("36: moved", Look.wormCells(grid), ".0/1.");
        CHECK.refused("36: left", NoSuchElementException.class, grid, () -> grid.wormIn(0, 0));
        grid.removeWorm(0);
        CHECK.refused("36: removed", NoSuchElementException.class, grid, () -> grid.wormIn(0, 1));
        CHECK.same("36: its number decreased", grid.wormIn(1, 0), 0);
    }

    private static void stepCount() {
        GlowwormGrid grid = new GlowwormGrid();
        CHECK.same("37: none", grid.stepCount(), 0);
        grid.addWorm(0, 0, 'e');
        grid.step();
        grid.step();
        CHECK.same("37: two", grid.stepCount(), 2);
        grid.resize(2, 2);
        CHECK.same("37: resize keeps it", grid.stepCount(), 2);
        grid.setPattern('o');
        grid.step();
        CHECK.same("37: three", grid.stepCount(), 3);
    }
}
