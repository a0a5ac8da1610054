import java.util.Arrays;
import java.util.NoSuchElementException;

/** A puzzle with lights on a grid: a press toggles the lights of a pattern around a cell. */
public final class GlowwormGrid {
    private static final int LONGEST_SIDE = 5;

    // One more than the longest row: the bit beside the first or the last cell of a row is then no
    // cell's bit, and nothing can run over from one row into the next.
    private static final int ROW_STRIDE = 6;

    // A cell's number is row * ROW_STRIDE + column for every size, which keeps the order of the
    // cells; a set of cells is an int with the bit of each cell's number.
    private static final int NUMBERS = 30;
    private static final int FIRST_COLUMN = 0b000001_000001_000001_000001_000001;

    private static final int NONE = -1;
    private static final String PATTERNS = "+xos";

    // In the order of turning right.
    private static final String DIRECTIONS = "nesw";

    private final Board board = new Board();
    private final Board before = new Board();
    private final Board snapshot = new Board();
    private boolean hasSnapshot;
    private final History history = new History();
    private final Solver solver = new Solver();
    private final CommandText text = new CommandText();
    private int lastErrorPosition = NONE;
    private int lastFailedCommand = NONE;
    private final char[] line = new char[2 * LONGEST_SIDE];
    private int lineLength;

    public GlowwormGrid() {
    }

    // The grid.

    public int resize(int rows, int columns) throws IllegalArgumentException {
        if (!Board.isSize(rows, columns)) {
            throw new IllegalArgumentException("a number is out of range");
        }
        history.remember(board);
        board.changeSize(rows, columns);
        return board.cellCount();
    }

    public char setPattern(char pattern) throws IllegalArgumentException {
        if (PATTERNS.indexOf(pattern) < 0) {
            throw new IllegalArgumentException("there is no such pattern");
        }
        history.remember(board);
        char previous = board.pattern;
        board.changePattern(pattern);
        return previous;
    }

    public boolean setLight(int row, int column, boolean isLit) throws IndexOutOfBoundsException {
        requireCell(row, column);
        history.remember(board);
        int cell = Board.numberOf(row, column);
        boolean wasLit = Board.contains(board.lit, cell);
        board.changeLight(cell, isLit);
        return wasLit;
    }

    public int press(int row, int column) throws IndexOutOfBoundsException {
        requireCell(row, column);
        history.remember(board);
        board.pressCell(Board.numberOf(row, column));
        return Integer.bitCount(board.lit);
    }

    public int rowCount() {
        return board.rows;
    }

    public int columnCount() {
        return board.columns;
    }

    public char pattern() {
        return board.pattern;
    }

    public boolean isLit(int row, int column) throws IndexOutOfBoundsException {
        requireCell(row, column);
        return Board.contains(board.lit, Board.numberOf(row, column));
    }

    public boolean isLitByPresses(int row, int column) throws IndexOutOfBoundsException {
        requireCell(row, column);
        return Board.contains(board.litByRecord(), Board.numberOf(row, column));
    }

    public int litCount() {
        return Integer.bitCount(board.lit);
    }

    public int litInRow(int row) throws IndexOutOfBoundsException {
        requireRow(row);
        int firstRow = (1 << LONGEST_SIDE) - 1;
        return Integer.bitCount(board.lit & firstRow << row * ROW_STRIDE);
    }

    public int litInColumn(int column) throws IndexOutOfBoundsException {
        if (column < 0 || column >= board.columns) {
            throw new IndexOutOfBoundsException("there is no such column");
        }
        return Integer.bitCount(board.lit & FIRST_COLUMN << column);
    }

    public int pressesOf(int row, int column) throws IndexOutOfBoundsException {
        requireCell(row, column);
        return board.presses[Board.numberOf(row, column)];
    }

    public int reachOf(int row, int column) throws IndexOutOfBoundsException {
        requireCell(row, column);
        return Integer.bitCount(board.reachedFrom(Board.numberOf(row, column)));
    }

    // Goals and solutions.

    public boolean toggleGoal(int row, int column) throws IndexOutOfBoundsException {
        requireCell(row, column);
        history.remember(board);
        int cell = Board.numberOf(row, column);
        board.goals ^= 1 << cell;
        return Board.contains(board.goals, cell);
    }

    public boolean isGoalLit(int row, int column) throws IndexOutOfBoundsException {
        requireCell(row, column);
        return Board.contains(board.goals, Board.numberOf(row, column));
    }

    public boolean isReached() {
        return board.differences() == 0;
    }

    public int differenceCount() {
        return Integer.bitCount(board.differences());
    }

    public boolean isSolvable() {
        return solver.canSolve(board);
    }

    public boolean isSolvableByParity() {
        return solver.hasEvenParities(board);
    }

    public int quietNumber() {
        solver.eliminate(board);
        return solver.quietCount;
    }

    public boolean isQuietCell(int row, int column) throws IndexOutOfBoundsException {
        requireCell(row, column);
        return Board.contains(solver.quietCells(board), Board.numberOf(row, column));
    }

    public int quietCellCount() {
        return Integer.bitCount(solver.quietCells(board));
    }

    public int fewestPresses() throws NoSuchElementException {
        return Integer.bitCount(requiredSolution());
    }

    public boolean isInSolution(int row, int column) throws IndexOutOfBoundsException, NoSuchElementException {
        requireCell(row, column);
        return Board.contains(requiredSolution(), Board.numberOf(row, column));
    }

    public int solve() throws NoSuchElementException {
        int solution = requiredSolution();
        history.remember(board);
        return board.pressAll(solution);
    }

    public int chase() throws UnsupportedOperationException {
        if (board.pattern != '+') {
            throw new UnsupportedOperationException("the pattern is not +");
        }
        history.remember(board);
        return board.chaseLights();
    }

    // Glowworms.

    public int addWorm(int row, int column, char direction)
            throws IndexOutOfBoundsException, IllegalArgumentException, IllegalStateException {
        requireCell(row, column);
        if (DIRECTIONS.indexOf(direction) < 0) {
            throw new IllegalArgumentException("there is no such direction");
        }
        int cell = Board.numberOf(row, column);
        if (!board.worms.hasRoomIn(cell)) {
            throw new IllegalStateException("there are 4 glowworms, or there is one in the cell");
        }
        history.remember(board);
        board.worms.put(cell, DIRECTIONS.indexOf(direction));
        return board.worms.count - 1;
    }

    public int removeWorm(int worm) throws IndexOutOfBoundsException {
        requireWorm(worm);
        history.remember(board);
        board.worms.takeOut(worm);
        return board.worms.count;
    }

    public int step() {
        history.remember(board);
        return board.letWormsAct();
    }

    public int wormCount() {
        return board.worms.count;
    }

    public int rowOfWorm(int worm) throws IndexOutOfBoundsException {
        requireWorm(worm);
        return board.worms.cells[worm] / ROW_STRIDE;
    }

    public int columnOfWorm(int worm) throws IndexOutOfBoundsException {
        requireWorm(worm);
        return board.worms.cells[worm] % ROW_STRIDE;
    }

    public char directionOf(int worm) throws IndexOutOfBoundsException {
        requireWorm(worm);
        return DIRECTIONS.charAt(board.worms.directions[worm]);
    }

    public int wormIn(int row, int column) throws IndexOutOfBoundsException, NoSuchElementException {
        requireCell(row, column);
        int worm = board.worms.numberIn(Board.numberOf(row, column));
        if (worm == NONE) {
            throw new NoSuchElementException("there is no glowworm in the cell");
        }
        return worm;
    }

    public int stepCount() {
        return board.steps;
    }

    // Lines, statistics and checks.

    public int writeRow(int row) throws IndexOutOfBoundsException {
        requireRow(row);
        lineLength = 0;
        for (int column = 0; column < board.columns; column++) {
            int cell = Board.numberOf(row, column);
            appendToLine(Board.contains(board.lit, cell) ? '*' : '.');
            if (Board.contains(board.differences(), cell)) {
                appendToLine('!');
            }
        }
        return lineLength;
    }

    public char lineAt(int index) throws IndexOutOfBoundsException {
        if (index < 0 || index >= lineLength) {
            throw new IndexOutOfBoundsException("there is no such character");
        }
        return line[index];
    }

    public double meanPresses() {
        int sum = 0;
        for (int cell = 0; cell < NUMBERS; cell++) {
            sum += board.presses[cell];
        }
        return (double) sum / (double) board.cellCount();
    }

    public float litShare() {
        return (float) Integer.bitCount(board.lit) / (float) board.cellCount();
    }

    public boolean isConsistent() {
        return board.lit == board.litByRecord()
                && solver.canSolve(board) == solver.hasEvenParities(board)
                && board.worms.areApart();
    }

    // Text, undo and snapshots.

    public int type(char character) throws IllegalArgumentException, IllegalStateException {
        if (character < 32 || character > 126) {
            throw new IllegalArgumentException("the character is not from 32 to 126");
        }
        if (text.length >= CommandText.LIMIT) {
            throw new IllegalStateException("the buffer contains 60 characters");
        }
        text.append(character);
        return text.length;
    }

    public int execute() throws IllegalArgumentException, IllegalStateException {
        int fault = text.faultPosition();
        if (fault != NONE) {
            text.length = 0;
            lastErrorPosition = fault;
            throw new IllegalArgumentException("the text is malformed");
        }
        int count = text.commandCount();
        before.copyFrom(board);
        int done = runUntilFailure(count);
        text.length = 0;
        if (done < count) {
            board.copyFrom(before);
            lastFailedCommand = done;
            throw new IllegalStateException("a command failed");
        }
        history.remember(before);
        return count;
    }

    public int errorPosition() throws NoSuchElementException {
        if (lastErrorPosition == NONE) {
            throw new NoSuchElementException("no text was malformed so far");
        }
        return lastErrorPosition;
    }

    public int failedCommand() throws NoSuchElementException {
        if (lastFailedCommand == NONE) {
            throw new NoSuchElementException("no command failed so far");
        }
        return lastFailedCommand;
    }

    public int undo() throws IllegalStateException {
        if (history.count == 0) {
            throw new IllegalStateException("there is no modification to undo");
        }
        history.takeBack(board);
        return history.count;
    }

    public int save() {
        snapshot.copyFrom(board);
        hasSnapshot = true;
        return board.cellCount();
    }

    public int restore() throws IllegalStateException {
        if (!hasSnapshot) {
            throw new IllegalStateException("there is no snapshot");
        }
        board.copyFrom(snapshot);
        history.count = 0;
        return board.cellCount();
    }

    private void requireCell(int row, int column) {
        if (!board.hasCell(row, column)) {
            throw new IndexOutOfBoundsException("there is no such cell");
        }
    }

    private void requireRow(int row) {
        if (row < 0 || row >= board.rows) {
            throw new IndexOutOfBoundsException("there is no such row");
        }
    }

    private void requireWorm(int worm) {
        if (worm < 0 || worm >= board.worms.count) {
            throw new IndexOutOfBoundsException("there is no such glowworm");
        }
    }

    private int requiredSolution() {
        int solution = solver.bestSolution(board);
        if (solution == NONE) {
            throw new NoSuchElementException("there is no solution");
        }
        return solution;
    }

    private void appendToLine(char character) {
        if (lineLength < line.length) {
            line[lineLength] = character;
            lineLength++;
        }
    }

    private int runUntilFailure(int count) {
        int start = 0;
        for (int done = 0; done < count; done++) {
            CommandKind kind = text.kindAt(start);
            if (kind == null || !runCommand(kind, start)) {
                return done;
            }
            start += kind.form.length() + 1;
        }
        return count;
    }

    private boolean runCommand(CommandKind kind, int start) {
        switch (kind) {
            case PATTERN:
                board.changePattern(text.signOf(kind, start));
                return true;
            case STEP:
                board.letWormsAct();
                return true;
            case SOLVE:
                return runSolution(solver.bestSolution(board));
            case CHASE:
                return runChase();
            case SIZE:
                return runSize(text.firstDigitOf(kind, start), text.secondDigitOf(kind, start));
            default:
                return runInCell(kind, start);
        }
    }

    private boolean runSolution(int solution) {
        if (solution == NONE) {
            return false;
        }
        board.pressAll(solution);
        return true;
    }

    private boolean runChase() {
        if (board.pattern != '+') {
            return false;
        }
        board.chaseLights();
        return true;
    }

    private boolean runSize(int rows, int columns) {
        if (!Board.isSize(rows, columns)) {
            return false;
        }
        board.changeSize(rows, columns);
        return true;
    }

    private boolean runInCell(CommandKind kind, int start) {
        int row = text.firstDigitOf(kind, start);
        int column = text.secondDigitOf(kind, start);
        if (!board.hasCell(row, column)) {
            return false;
        }
        int cell = Board.numberOf(row, column);
        switch (kind) {
            case PRESS:
                board.pressCell(cell);
                return true;
            case LIGHT:
                board.changeLight(cell, true);
                return true;
            case DARK:
                board.changeLight(cell, false);
                return true;
            case GOAL:
                board.goals ^= 1 << cell;
                return true;
            default:
                return runWorm(cell, DIRECTIONS.indexOf(text.signOf(kind, start)));
        }
    }

    private boolean runWorm(int cell, int direction) {
        if (direction < 0 || !board.worms.hasRoomIn(cell)) {
            return false;
        }
        board.worms.put(cell, direction);
        return true;
    }

    /** All of the state that undo and restore bring back. */
    private static final class Board {
        private static final int FIRST_SIZE = 3;

        int rows;
        int columns;
        int cells;
        char pattern = '+';
        int lit;
        int litAtRecordStart;
        int goals;
        int steps;
        final int[] presses = new int[NUMBERS];
        final Worms worms = new Worms();

        Board() {
            changeSize(FIRST_SIZE, FIRST_SIZE);
        }

        static boolean isSize(int rows, int columns) {
            return rows >= 1 && rows <= LONGEST_SIDE && columns >= 1 && columns <= LONGEST_SIDE;
        }

        static int numberOf(int row, int column) {
            return row * ROW_STRIDE + column;
        }

        static boolean contains(int set, int cell) {
            return (set & 1 << cell) != 0;
        }

        boolean hasCell(int row, int column) {
            return row >= 0 && row < rows && column >= 0 && column < columns;
        }

        boolean hasNumber(int cell) {
            return cell >= 0 && cell < NUMBERS && contains(cells, cell);
        }

        int cellCount() {
            return rows * columns;
        }

        int differences() {
            return lit ^ goals;
        }

        void changeSize(int newRows, int newColumns) {
            rows = newRows;
            columns = newColumns;
            cells = 0;
            for (int row = 0; row < newRows; row++) {
                cells |= (1 << newColumns) - 1 << row * ROW_STRIDE;
            }
            lit = 0;
            goals = 0;
            worms.count = 0;
            beginRecord();
        }

        void changePattern(char newPattern) {
            pattern = newPattern;
            beginRecord();
        }

        private void beginRecord() {
            litAtRecordStart = lit;
            Arrays.fill(presses, 0);
        }

        void changeLight(int cell, boolean toLit) {
            if (contains(lit, cell) != toLit) {
                lit ^= 1 << cell;
                // The recorded presses toggle the light as often as before, so that it must have
                // been the other way at the start of the record, too.
                litAtRecordStart ^= 1 << cell;
            }
        }

        void pressCell(int cell) {
            if (hasNumber(cell)) {
                lit ^= reachedFrom(cell);
                presses[cell]++;
            }
        }

        int pressAll(int set) {
            for (int cell = 0; cell < NUMBERS; cell++) {
                if (contains(set, cell)) {
                    pressCell(cell);
                }
            }
            return Integer.bitCount(set);
        }

        int reachedFrom(int cell) {
            int self = 1 << cell;
            int beside = self << 1 | self >>> 1;
            int aboveAndBelow = self << ROW_STRIDE | self >>> ROW_STRIDE;
            int diagonal = beside << ROW_STRIDE | beside >>> ROW_STRIDE;
            switch (pattern) {
                case '+':
                    return cells & (self | beside | aboveAndBelow);
                case 'x':
                    return cells & (self | diagonal);
                case 'o':
                    return cells & (self | beside | aboveAndBelow | diagonal);
                default:
                    return self;
            }
        }

        int litByRecord() {
            int set = litAtRecordStart;
            for (int cell = 0; cell < NUMBERS; cell++) {
                if (presses[cell] % 2 != 0) {
                    set ^= reachedFrom(cell);
                }
            }
            return set;
        }

        int chaseLights() {
            int made = 0;
            for (int row = 1; row < rows; row++) {
                for (int column = 0; column < columns; column++) {
                    if (contains(differences(), numberOf(row - 1, column))) {
                        pressCell(numberOf(row, column));
                        made++;
                    }
                }
            }
            return made;
        }

        int letWormsAct() {
            int made = 0;
            for (int worm = 0; worm < worms.count; worm++) {
                int next = worms.cells[worm] + worms.wayOf(worm);
                if (hasNumber(next) && worms.numberIn(next) == NONE) {
                    worms.cells[worm] = next;
                    pressCell(next);
                    made++;
                } else {
                    worms.turnRight(worm);
                }
            }
            steps++;
            return made;
        }

        void copyFrom(Board other) {
            rows = other.rows;
            columns = other.columns;
            cells = other.cells;
            pattern = other.pattern;
            lit = other.lit;
            litAtRecordStart = other.litAtRecordStart;
            goals = other.goals;
            steps = other.steps;
            System.arraycopy(other.presses, 0, presses, 0, NUMBERS);
            worms.copyFrom(other.worms);
        }
    }

    /** The glowworms, with their cells and their places in DIRECTIONS. */
    private static final class Worms {
        private static final int LIMIT = 4;

        int count;
        final int[] cells = new int[LIMIT];
        final int[] directions = new int[LIMIT];

        int numberIn(int cell) {
            for (int worm = 0; worm < count; worm++) {
                if (cells[worm] == cell) {
                    return worm;
                }
            }
            return NONE;
        }

        boolean hasRoomIn(int cell) {
            return count < LIMIT && numberIn(cell) == NONE;
        }

        void put(int cell, int direction) {
            if (count < LIMIT) {
                cells[count] = cell;
                directions[count] = direction;
                count++;
            }
        }

        void takeOut(int worm) {
            for (int later = worm + 1; later < count; later++) {
                cells[later - 1] = cells[later];
                directions[later - 1] = directions[later];
            }
            count--;
        }

        // From a cell's number to the next one's.
        int wayOf(int worm) {
            switch (DIRECTIONS.charAt(directions[worm])) {
                case 'n':
                    return -ROW_STRIDE;
                case 'e':
                    return 1;
                case 's':
                    return ROW_STRIDE;
                default:
                    return -1;
            }
        }

        void turnRight(int worm) {
            directions[worm] = (directions[worm] + 1) % DIRECTIONS.length();
        }

        boolean areApart() {
            for (int worm = 0; worm < count; worm++) {
                if (numberIn(cells[worm]) != worm) {
                    return false;
                }
            }
            return true;
        }

        void copyFrom(Worms other) {
            count = other.count;
            System.arraycopy(other.cells, 0, cells, 0, LIMIT);
            System.arraycopy(other.directions, 0, directions, 0, LIMIT);
        }
    }

    /** The boards as they were before the last modifications. */
    private static final class History {
        private static final int LIMIT = 8;

        final Board[] boards = new Board[LIMIT];
        int next;
        int count;

        History() {
            for (int index = 0; index < LIMIT; index++) {
                boards[index] = new Board();
            }
        }

        void remember(Board board) {
            boards[next].copyFrom(board);
            next = (next + 1) % LIMIT;
            count = Math.min(count + 1, LIMIT);
        }

        void takeBack(Board board) {
            next = (next + LIMIT - 1) % LIMIT;
            count--;
            board.copyFrom(boards[next]);
        }
    }

    /** Finds solutions and quiet sets: one equation for each light, one unknown for each cell. */
    private static final class Solver {
        // The bit that says whether an equation's light must be toggled: no cell's bit.
        private static final int RIGHT_SIDE = 1 << NUMBERS;

        final int[] equations = new int[NUMBERS];

        // The unknown for which an equation is solved: it stands in no other equation.
        final int[] solvedFor = new int[NUMBERS];
        int solvedCount;

        // Each quiet set is a combination of these.
        final int[] quietSets = new int[NUMBERS];
        int quietCount;

        void eliminate(Board board) {
            writeEquations(board);
            solvedCount = 0;
            int free = 0;
            for (int cell = 0; cell < NUMBERS; cell++) {
                if (Board.contains(board.cells, cell) && !solveFor(1 << cell)) {
                    free |= 1 << cell;
                }
            }
            collectQuietSets(free);
        }

        private void writeEquations(Board board) {
            int differences = board.differences();
            for (int cell = 0; cell < NUMBERS; cell++) {
                equations[cell] = Board.contains(board.cells, cell) ? board.reachedFrom(cell) : 0;
                if (Board.contains(differences, cell)) {
                    equations[cell] |= RIGHT_SIDE;
                }
            }
        }

        private boolean solveFor(int unknown) {
            int found = unsolvedWith(unknown);
            if (found == NONE) {
                return false;
            }
            int chosen = equations[found];
            equations[found] = equations[solvedCount];
            equations[solvedCount] = chosen;
            for (int index = 0; index < NUMBERS; index++) {
                if (index != solvedCount && (equations[index] & unknown) != 0) {
                    equations[index] ^= chosen;
                }
            }
            solvedFor[solvedCount] = unknown;
            solvedCount++;
            return true;
        }

        private int unsolvedWith(int unknown) {
            for (int index = solvedCount; index < NUMBERS; index++) {
                if ((equations[index] & unknown) != 0) {
                    return index;
                }
            }
            return NONE;
        }

        private void collectQuietSets(int free) {
            quietCount = 0;
            for (int cell = 0; cell < NUMBERS; cell++) {
                if (Board.contains(free, cell)) {
                    quietSets[quietCount] = 1 << cell | solvedWith(1 << cell);
                    quietCount++;
                }
            }
        }

        private int solvedWith(int part) {
            int set = 0;
            for (int index = 0; index < solvedCount; index++) {
                if ((equations[index] & part) != 0) {
                    set |= solvedFor[index];
                }
            }
            return set;
        }

        boolean canSolve(Board board) {
            eliminate(board);
            return isFreeOfContradiction();
        }

        private boolean isFreeOfContradiction() {
            for (int index = solvedCount; index < NUMBERS; index++) {
                if (equations[index] != 0) {
                    return false;
                }
            }
            return true;
        }

        boolean hasEvenParities(Board board) {
            eliminate(board);
            int quietSet = 0;
            for (int count = 1; count < 1 << quietCount; count++) {
                quietSet ^= changeAt(count);
                if (Integer.bitCount(quietSet & board.differences()) % 2 != 0) {
                    return false;
                }
            }
            return true;
        }

        // A Gray code: the changes at 1, 2, 3 and so on lead through every combination of
        // quietSets once, one of them coming or going at a time.
        private int changeAt(int count) {
            int index = Integer.bitCount((count & -count) - 1);
            return index < quietCount ? quietSets[index] : 0;
        }

        int quietCells(Board board) {
            eliminate(board);
            int set = 0;
            for (int index = 0; index < quietCount; index++) {
                set |= quietSets[index];
            }
            return set;
        }

        int bestSolution(Board board) {
            eliminate(board);
            if (!isFreeOfContradiction()) {
                return NONE;
            }
            int solution = solvedWith(RIGHT_SIDE);
            int best = solution;
            for (int count = 1; count < 1 << quietCount; count++) {
                solution ^= changeAt(count);
                if (isBetter(solution, best)) {
                    best = solution;
                }
            }
            return best;
        }

        private static boolean isBetter(int set, int than) {
            int difference = Integer.bitCount(set) - Integer.bitCount(than);
            if (difference != 0) {
                return difference < 0;
            }
            int inOneOnly = set ^ than;
            int firstCell = inOneOnly & -inOneOnly;
            return (set & firstCell) == 0;
        }
    }

    /** The forms of the commands: # stands for a digit, @ for a pattern, ^ for a direction. */
    private enum CommandKind {
        PRESS("press # #"),
        LIGHT("light # #"),
        DARK("dark # #"),
        GOAL("goal # #"),
        SIZE("size # #"),
        PATTERN("pattern @"),
        WORM("worm # # ^"),
        STEP("step"),
        SOLVE("solve"),
        CHASE("chase");

        final String form;

        CommandKind(String form) {
            this.form = form;
        }
    }

    /** The text buffer, read as commands. */
    private static final class CommandText {
        static final int LIMIT = 60;
        private static final CommandKind[] KINDS = CommandKind.values();

        final char[] characters = new char[LIMIT];
        int length;

        void append(char character) {
            if (length < LIMIT) {
                characters[length] = character;
                length++;
            }
        }

        private char characterAt(int position) {
            return position >= 0 && position < length ? characters[position] : ' ';
        }

        int faultPosition() {
            int start = 0;
            while (start <= length) {
                CommandKind kind = kindAt(start);
                if (kind == null) {
                    return start + longestMatch(start);
                }
                int end = start + kind.form.length();
                if (end >= length) {
                    return NONE;
                }
                if (characterAt(end) != ';') {
                    return end;
                }
                start = end + 1;
            }
            return NONE;
        }

        // Only for a text without fault: there each semicolon stands between two commands.
        int commandCount() {
            int count = 1;
            for (int position = 0; position < length; position++) {
                if (characterAt(position) == ';') {
                    count++;
                }
            }
            return count;
        }

        // At most one form can match, as no form is the beginning of another.
        CommandKind kindAt(int start) {
            for (int index = 0; index < KINDS.length; index++) {
                if (matchOf(KINDS[index].form, start) == KINDS[index].form.length()) {
                    return KINDS[index];
                }
            }
            return null;
        }

        private int longestMatch(int start) {
            int longest = 0;
            for (int index = 0; index < KINDS.length; index++) {
                longest = Math.max(longest, matchOf(KINDS[index].form, start));
            }
            return longest;
        }

        private int matchOf(String form, int start) {
            int end = Math.min(form.length(), length - start);
            for (int index = 0; index < end; index++) {
                if (!fits(form.charAt(index), characterAt(start + index))) {
                    return index;
                }
            }
            return Math.max(end, 0);
        }

        private static boolean fits(char wanted, char given) {
            switch (wanted) {
                case '#':
                    return given >= '0' && given <= '9';
                case '@':
                    return PATTERNS.indexOf(given) >= 0;
                case '^':
                    return DIRECTIONS.indexOf(given) >= 0;
                default:
                    return given == wanted;
            }
        }

        int firstDigitOf(CommandKind kind, int start) {
            return characterAt(start + kind.form.indexOf('#')) - '0';
        }

        // Behind the first digit and a blank.
        int secondDigitOf(CommandKind kind, int start) {
            return characterAt(start + kind.form.indexOf('#') + 2) - '0';
        }

        // A pattern or a direction ends its command.
        char signOf(CommandKind kind, int start) {
            return characterAt(start + kind.form.length() - 1);
        }
    }
}
