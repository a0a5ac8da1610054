import java.util.ArrayList;
import java.util.List;
import java.util.NoSuchElementException;
import java.util.regex.Matcher;
import java.util.regex.Pattern;

/**
 * The document once more, written from its words alone and by other means than the program: lights
 * in arrays, solutions by trying all sets row by row, the grammar as a regular expression.
 */
final class Model {
    private static final String TWO_DIGITS = " [0-9] [0-9]";
    private static final String COMMAND = "(?:(?:press|light|dark|goal|size)" + TWO_DIGITS
            + "|pattern [+xos]|worm" + TWO_DIGITS + " [nesw]|step|solve|chase)";
    private static final Pattern TEXT = Pattern.compile(COMMAND + "(?:;" + COMMAND + ")*");

    /** One state, copied for undo, save and execute. */
    private static final class State {
        boolean[][] lit;
        boolean[][] goal;
        boolean[][] start;
        int[][] presses;
        char pattern = '+';
        List<int[]> worms = new ArrayList<>();
        int steps;

        State copy() {
            State other = new State();
            other.lit = copyOf(lit);
            other.goal = copyOf(goal);
            other.start = copyOf(start);
            other.presses = new int[presses.length][];
            for (int row = 0; row < presses.length; row++) {
                other.presses[row] = presses[row].clone();
            }
            other.pattern = pattern;
            for (int[] worm : worms) {
                other.worms.add(worm.clone());
            }
            other.steps = steps;
            return other;
        }

        private static boolean[][] copyOf(boolean[][] cells) {
            boolean[][] other = new boolean[cells.length][];
            for (int row = 0; row < cells.length; row++) {
                other[row] = cells[row].clone();
            }
            return other;
        }
    }

    private State now = new State();
    private State saved;
    private List<State> past = new ArrayList<>();
    private String buffer = "";
    private String line = "";
    private int errorAt = -1;
    private int failedAt = -1;

    Model() {
        setSize(3, 3);
    }

    private void setSize(int rows, int columns) {
        now.lit = new boolean[rows][columns];
        now.goal = new boolean[rows][columns];
        now.worms.clear();
        beginRecord();
    }

    private void beginRecord() {
        now.start = State.copyOf(now.lit);
        now.presses = new int[rowCount()][columnCount()];
    }

    private void remember() {
        past.add(now.copy());
        if (past.size() > 8) {
            past.remove(0);
        }
    }

    private boolean has(int row, int column) {
        return 0 <= row && row < rowCount() && 0 <= column && column < columnCount();
    }

    private void need(int row, int column) {
        if (!has(row, column)) {
            throw new IndexOutOfBoundsException();
        }
    }

    private boolean toggles(int row, int column, int otherRow, int otherColumn) {
        int down = Math.abs(row - otherRow);
        int right = Math.abs(column - otherColumn);
        switch (now.pattern) {
            case '+':
                return down + right <= 1;
            case 'x':
                return down == right && down <= 1;
            case 'o':
                return down <= 1 && right <= 1;
            default:
                return down == 0 && right == 0;
        }
    }

    private void toggle(boolean[][] lights, int row, int column) {
        for (int r = 0; r < rowCount(); r++) {
            for (int c = 0; c < columnCount(); c++) {
                lights[r][c] ^= toggles(row, column, r, c);
            }
        }
    }

    private void pressHere(int row, int column) {
        toggle(now.lit, row, column);
        now.presses[row][column]++;
    }

    int resize(int rows, int columns) {
        if (rows < 1 || rows > 5 || columns < 1 || columns > 5) {
            throw new IllegalArgumentException();
        }
        remember();
        setSize(rows, columns);
        return rows * columns;
    }

    char setPattern(char pattern) {
        if (pattern != '+' && pattern != 'x' && pattern != 'o' && pattern != 's') {
            throw new IllegalArgumentException();
        }
        remember();
        char old = now.pattern;
        now.pattern = pattern;
        beginRecord();
        return old;
    }

    boolean setLight(int row, int column, boolean isLit) {
        need(row, column);
        remember();
        boolean old = now.lit[row][column];
        now.lit[row][column] = isLit;
        // Whichever start of this one light explains it, with the presses that are recorded.
        now.start[row][column] = false;
        if (isLitByPresses(row, column) != isLit) {
            now.start[row][column] = true;
        }
        return old;
    }

    int press(int row, int column) {
        need(row, column);
        remember();
        pressHere(row, column);
        return litCount();
    }

    int rowCount() {
        return now.lit.length;
    }

    int columnCount() {
        return now.lit[0].length;
    }

    char pattern() {
        return now.pattern;
    }

    boolean isLit(int row, int column) {
        need(row, column);
        return now.lit[row][column];
    }

    boolean isLitByPresses(int row, int column) {
        need(row, column);
        int toggles = 0;
        for (int r = 0; r < rowCount(); r++) {
            for (int c = 0; c < columnCount(); c++) {
                toggles += toggles(r, c, row, column) ? now.presses[r][c] : 0;
            }
        }
        return now.start[row][column] ^ toggles % 2 == 1;
    }

    int litCount() {
        int count = 0;
        for (int row = 0; row < rowCount(); row++) {
            count += litInRow(row);
        }
        return count;
    }

    int litInRow(int row) {
        need(row, 0);
        int count = 0;
        for (boolean light : now.lit[row]) {
            count += light ? 1 : 0;
        }
        return count;
    }

    int litInColumn(int column) {
        need(0, column);
        int count = 0;
        for (boolean[] row : now.lit) {
            count += row[column] ? 1 : 0;
        }
        return count;
    }

    int pressesOf(int row, int column) {
        need(row, column);
        return now.presses[row][column];
    }

    int reachOf(int row, int column) {
        need(row, column);
        boolean[][] lights = new boolean[rowCount()][columnCount()];
        toggle(lights, row, column);
        return count(lights);
    }

    private static int count(boolean[][] cells) {
        int count = 0;
        for (boolean[] row : cells) {
            for (boolean cell : row) {
                count += cell ? 1 : 0;
            }
        }
        return count;
    }

    boolean toggleGoal(int row, int column) {
        need(row, column);
        remember();
        now.goal[row][column] = !now.goal[row][column];
        return now.goal[row][column];
    }

    boolean isGoalLit(int row, int column) {
        need(row, column);
        return now.goal[row][column];
    }

    boolean isReached() {
        return differenceCount() == 0;
    }

    private boolean[][] differences() {
        boolean[][] cells = State.copyOf(now.lit);
        for (int row = 0; row < rowCount(); row++) {
            for (int column = 0; column < columnCount(); column++) {
                cells[row][column] ^= now.goal[row][column];
            }
        }
        return cells;
    }

    int differenceCount() {
        return count(differences());
    }

    /** All sets of cells whose presses toggle just these lights. */
    private List<boolean[][]> setsThatToggle(boolean[][] lights) {
        List<boolean[][]> found = new ArrayList<>();
        tryRow(State.copyOf(lights), new boolean[rowCount()][columnCount()], 0, found);
        return found;
    }

    private void tryRow(boolean[][] left, boolean[][] set, int row, List<boolean[][]> found) {
        if (row == rowCount()) {
            if (count(left) == 0) {
                found.add(State.copyOf(set));
            }
            return;
        }
        for (int choice = 0; choice < 1 << columnCount(); choice++) {
            boolean[][] then = State.copyOf(left);
            for (int column = 0; column < columnCount(); column++) {
                set[row][column] = (choice >> column) % 2 == 1;
                if (set[row][column]) {
                    toggle(then, row, column);
                }
            }
            // No later row reaches the lights of the row before.
            boolean[][] settled = row == 0 ? new boolean[0][] : new boolean[][] {then[row - 1]};
            if (count(settled) == 0) {
                tryRow(then, set, row + 1, found);
            }
        }
    }

    private List<boolean[][]> quietSets() {
        List<boolean[][]> sets = setsThatToggle(new boolean[rowCount()][columnCount()]);
        sets.removeIf(set -> count(set) == 0);
        return sets;
    }

    private boolean[][] best() {
        boolean[][] best = null;
        for (boolean[][] set : setsThatToggle(differences())) {
            if (best == null || count(set) < count(best) || count(set) == count(best) && isBefore(set, best)) {
                best = set;
            }
        }
        if (best == null) {
            throw new NoSuchElementException();
        }
        return best;
    }

    private static boolean isBefore(boolean[][] set, boolean[][] other) {
        for (int row = 0; row < set.length; row++) {
            for (int column = 0; column < set[row].length; column++) {
                if (set[row][column] != other[row][column]) {
                    return !set[row][column];
                }
            }
        }
        return false;
    }

    boolean isSolvable() {
        return !setsThatToggle(differences()).isEmpty();
    }

    boolean isSolvableByParity() {
        return isSolvable();
    }

    int quietNumber() {
        int number = 0;
        while ((1 << number) - 1 < quietSets().size()) {
            number++;
        }
        return number;
    }

    boolean isQuietCell(int row, int column) {
        need(row, column);
        for (boolean[][] set : quietSets()) {
            if (set[row][column]) {
                return true;
            }
        }
        return false;
    }

    int quietCellCount() {
        boolean[][] cells = new boolean[rowCount()][columnCount()];
        for (boolean[][] set : quietSets()) {
            for (int row = 0; row < rowCount(); row++) {
                for (int column = 0; column < columnCount(); column++) {
                    cells[row][column] |= set[row][column];
                }
            }
        }
        return count(cells);
    }

    int fewestPresses() {
        return count(best());
    }

    boolean isInSolution(int row, int column) {
        need(row, column);
        return best()[row][column];
    }

    int solve() {
        boolean[][] set = best();
        remember();
        for (int row = 0; row < rowCount(); row++) {
            for (int column = 0; column < columnCount(); column++) {
                if (set[row][column]) {
                    pressHere(row, column);
                }
            }
        }
        return count(set);
    }

    int chase() {
        if (now.pattern != '+') {
            throw new UnsupportedOperationException();
        }
        remember();
        int made = 0;
        for (int row = 1; row < rowCount(); row++) {
            for (int column = 0; column < columnCount(); column++) {
                if (now.lit[row - 1][column] != now.goal[row - 1][column]) {
                    pressHere(row, column);
                    made++;
                }
            }
        }
        return made;
    }

    int addWorm(int row, int column, char direction) {
        need(row, column);
        if (direction != 'n' && direction != 'e' && direction != 's' && direction != 'w') {
            throw new IllegalArgumentException();
        }
        if (wormCount() == 4 || isTaken(row, column)) {
            throw new IllegalStateException();
        }
        remember();
        now.worms.add(new int[] {row, column, direction});
        return wormCount() - 1;
    }

    private boolean isTaken(int row, int column) {
        for (int[] worm : now.worms) {
            if (worm[0] == row && worm[1] == column) {
                return true;
            }
        }
        return false;
    }

    private int[] needWorm(int worm) {
        if (worm < 0 || worm >= wormCount()) {
            throw new IndexOutOfBoundsException();
        }
        return now.worms.get(worm);
    }

    int removeWorm(int worm) {
        needWorm(worm);
        remember();
        now.worms.remove(worm);
        return wormCount();
    }

    int step() {
        remember();
        now.steps++;
        int made = 0;
        for (int[] worm : now.worms) {
            char direction = (char) worm[2];
            int row = worm[0] + (direction == 's' ? 1 : direction == 'n' ? -1 : 0);
            int column = worm[1] + (direction == 'e' ? 1 : direction == 'w' ? -1 : 0);
            if (has(row, column) && !isTaken(row, column)) {
                worm[0] = row;
                worm[1] = column;
                pressHere(row, column);
                made++;
            } else {
                worm[2] = direction == 'n' ? 'e' : direction == 'e' ? 's' : direction == 's' ? 'w' : 'n';
            }
        }
        return made;
    }

    int wormCount() {
        return now.worms.size();
    }

    int rowOfWorm(int worm) {
        return needWorm(worm)[0];
    }

    int columnOfWorm(int worm) {
        return needWorm(worm)[1];
    }

    char directionOf(int worm) {
        return (char) needWorm(worm)[2];
    }

    int wormIn(int row, int column) {
        need(row, column);
        for (int worm = 0; worm < wormCount(); worm++) {
            if (rowOfWorm(worm) == row && columnOfWorm(worm) == column) {
                return worm;
            }
        }
        throw new NoSuchElementException();
    }

    int stepCount() {
        return now.steps;
    }

    int writeRow(int row) {
        need(row, 0);
        line = "";
        for (int column = 0; column < columnCount(); column++) {
            line += now.lit[row][column] ? "*" : ".";
            line += now.lit[row][column] != now.goal[row][column] ? "!" : "";
        }
        return line.length();
    }

    char lineAt(int index) {
        if (index < 0 || index >= line.length()) {
            throw new IndexOutOfBoundsException();
        }
        return line.charAt(index);
    }

    double meanPresses() {
        int sum = 0;
        for (int[] row : now.presses) {
            for (int number : row) {
                sum += number;
            }
        }
        return (double) sum / (double) (rowCount() * columnCount());
    }

    float litShare() {
        return (float) litCount() / (float) (rowCount() * columnCount());
    }

    boolean isConsistent() {
        return true;
    }

    int type(char character) {
        if (character < 32 || character > 126) {
            throw new IllegalArgumentException();
        }
        if (buffer.length() == 60) {
            throw new IllegalStateException();
        }
        buffer += character;
        return buffer.length();
    }

    int execute() {
        String text = buffer;
        buffer = "";
        if (!TEXT.matcher(text).matches()) {
            errorAt = errorIn(text);
            throw new IllegalArgumentException();
        }
        State before = now.copy();
        List<State> pastBefore = new ArrayList<>(past);
        String[] commands = text.split(";");
        for (int index = 0; index < commands.length; index++) {
            if (!succeeds(commands[index])) {
                now = before;
                past = pastBefore;
                failedAt = index;
                throw new IllegalStateException();
            }
        }
        past = pastBefore;
        past.add(before);
        if (past.size() > 8) {
            past.remove(0);
        }
        return commands.length;
    }

    private static int errorIn(String text) {
        for (int length = 1; length <= text.length(); length++) {
            Matcher matcher = TEXT.matcher(text.substring(0, length));
            if (!matcher.matches() && !matcher.hitEnd()) {
                return length - 1;
            }
        }
        return text.length();
    }

    private boolean succeeds(String command) {
        try {
            run(command.split(" "));
            return true;
        } catch (RuntimeException e) {
            return false;
        }
    }

    private void run(String[] words) {
        String verb = words[0];
        if (words.length >= 3) {
            runWithNumbers(words, Integer.parseInt(words[1]), Integer.parseInt(words[2]));
        } else if (verb.equals("pattern")) {
            setPattern(words[1].charAt(0));
        } else if (verb.equals("step")) {
            step();
        } else if (verb.equals("solve")) {
            solve();
        } else {
            chase();
        }
    }

    private void runWithNumbers(String[] words, int first, int second) {
        switch (words[0]) {
            case "press":
                press(first, second);
                return;
            case "light":
                setLight(first, second, true);
                return;
            case "dark":
                setLight(first, second, false);
                return;
            case "goal":
                toggleGoal(first, second);
                return;
            case "size":
                resize(first, second);
                return;
            default:
                addWorm(first, second, words[3].charAt(0));
        }
    }

    int errorPosition() {
        if (errorAt < 0) {
            throw new NoSuchElementException();
        }
        return errorAt;
    }

    int failedCommand() {
        if (failedAt < 0) {
            throw new NoSuchElementException();
        }
        return failedAt;
    }

    int undo() {
        if (past.isEmpty()) {
            throw new IllegalStateException();
        }
        now = past.remove(past.size() - 1);
        return past.size();
    }

    int save() {
        saved = now.copy();
        return rowCount() * columnCount();
    }

    int restore() {
        if (saved == null) {
            throw new IllegalStateException();
        }
        now = saved.copy();
        past.clear();
        return rowCount() * columnCount();
    }
}
