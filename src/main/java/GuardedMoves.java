import java.util.Arrays;

/**
 * Texts with branches turned into code without: both sides of a branch are done and moves choose what they set;
 * where that may not be, or would take too much, jumps stay.
 */
public final class GuardedMoves {
    public static final int NONE = -1;

    private static final int VARIABLES = 16;
    private static final int WORDS = 32;
    private static final int TAPE_BYTES = 600;
    private static final int STATEMENTS = 60;
    private static final int DEEPEST = 6;
    private static final int LARGEST_LIMIT = 400;
    // No statement takes more than 12 steps: a division takes 5, a choice in each of the 6 branches round it, a move.
    private static final int STEPS = STATEMENTS * 12;

    private static final int WELL = 0;
    private static final int DIVISION = 1;
    private static final int INDEX = 2;

    private static final int WRONG_BYTE = 1;
    private static final int LARGE_NUMBER = 2;
    private static final int MANY_STATEMENTS = 3;
    private static final int DEEP_BRANCH = 4;

    private static final int SORT_VALUE = 0;
    private static final int SORT_OPERATION = 1;
    private static final int SORT_READ = 2;
    private static final int SORT_WRITE = 3;
    private static final int SORT_TELL = 4;
    private static final int SORT_BRANCH = 5;

    private static final int SET = 0;
    private static final int MOVE = 1;
    private static final int PLUS = 2;
    private static final int MINUS = 3;
    private static final int TIMES = 4;
    private static final int DIVIDE = 5;
    private static final int REST = 6;
    private static final int AND = 7;
    private static final int OR = 8;
    private static final int EITHER = 9;
    private static final int EQUAL = 10;
    private static final int UNEQUAL = 11;
    private static final int LESS = 12;
    private static final int CHOOSE = 13;
    private static final int LOAD = 14;
    private static final int STORE = 15;
    private static final int JUMP = 16;
    private static final int JUMPNOT = 17;
    private static final int TELL = 18;

    private static final String OPERATIONS = "+-*/%&|^";
    private static final String RELATIONS = "=#<";

    private final int[] putVariables = new int[VARIABLES];
    private final int[] putWords = new int[WORDS];
    private final TextReader reader = new TextReader();
    private Text text = new Text();
    private final Lowering lowering = new Lowering();
    private final Code code = lowering.code;
    private boolean hasCode = false;
    private final LatestRun latest = new LatestRun();

    public GuardedMoves() {
    }

    public void variable(int v, int number) throws IndexOutOfBoundsException {
        if (v < 0 || v >= VARIABLES) {
            throw new IndexOutOfBoundsException("no such variable");
        }
        putVariables[v] = number;
    }

    public void word(int i, int number) throws IndexOutOfBoundsException {
        if (i < 0 || i >= WORDS) {
            throw new IndexOutOfBoundsException("no such word");
        }
        putWords[i] = number;
    }

    public int feed(long bytes, int n) throws IllegalArgumentException, IllegalStateException {
        if (n < 1 || n > 8) {
            throw new IllegalArgumentException("1 to 8 bytes can be fed");
        }
        if (reader.length + n > TAPE_BYTES) {
            throw new IllegalStateException("the tape would be too long");
        }
        for (int i = n - 1; i >= 0; i--) {
            reader.append((int) (bytes >>> (8 * i)) & 255);
        }
        return reader.length;
    }

    public int read() {
        if (!reader.takeTape()) {
            return -1 - reader.faultPlace;
        }
        text = reader.handOver(text);
        hasCode = false;
        return text.size;
    }

    public int fault() {
        return reader.fault;
    }

    public int statement(int s, int what) throws IndexOutOfBoundsException, IllegalArgumentException {
        if (s < 0 || s >= text.size) {
            throw new IndexOutOfBoundsException("no such statement");
        }
        switch (what) {
            case 0:
                return text.sort[s];
            case 1:
                return text.depth[s];
            case 2:
                return hasCode && lowering.converted[s] ? 1 : 0;
            case 3:
                return hasCode ? code.stepsOf(s) : 0;
            default:
                throw new IllegalArgumentException("nothing such is told of a statement");
        }
    }

    public int lower(int limit) throws IllegalArgumentException {
        if (limit < 0 || limit > LARGEST_LIMIT) {
            throw new IllegalArgumentException("no such limit");
        }
        lowering.makeCode(text, limit);
        hasCode = true;
        return code.steps;
    }

    public int trim() {
        return hasCode ? code.dropUseless() : 0;
    }

    public int step(int i, int what) throws IndexOutOfBoundsException, IllegalArgumentException {
        if (!hasCode || i < 0 || i >= code.steps) {
            throw new IndexOutOfBoundsException("no such step");
        }
        if (what < 0 || what >= Code.ROWS) {
            throw new IllegalArgumentException("nothing such is told of a step");
        }
        return code.rows[what][i];
    }

    public int tell() {
        latest.begin(putVariables, putWords);
        latest.doText(text);
        return latest.ended;
    }

    public int run() throws IllegalStateException {
        if (!hasCode) {
            throw new IllegalStateException("there is no code");
        }
        latest.begin(putVariables, putWords);
        latest.doCode(code);
        return latest.ended;
    }

    public int left(int v) throws IndexOutOfBoundsException {
        if (v < 0 || v >= VARIABLES) {
            throw new IndexOutOfBoundsException("no such variable");
        }
        return latest.register[v];
    }

    public int kept(int i) throws IndexOutOfBoundsException {
        if (i < 0 || i >= WORDS) {
            throw new IndexOutOfBoundsException("no such word");
        }
        return latest.words[i];
    }

    public int output(int i) throws IndexOutOfBoundsException {
        if (i < 0 || i >= latest.outputs) {
            throw new IndexOutOfBoundsException("no such number of the output");
        }
        return latest.output[i];
    }

    public int count(int what) throws IllegalArgumentException {
        switch (what) {
            case 0:
                return text.size;
            case 1:
                return hasCode ? code.steps : 0;
            case 2:
                return hasCode ? code.registers : VARIABLES;
            case 3:
                return hasCode ? code.jumps() : 0;
            case 4:
                return hasCode ? lowering.convertedBranches() : 0;
            case 5:
                return latest.outputs;
            case 6:
                return reader.length;
            case 7:
                return latest.where;
            case 8:
                return latest.did;
            default:
                throw new IllegalArgumentException("nothing such is counted");
        }
    }

    private static boolean isWord(int index) {
        return index >= 0 && index < WORDS;
    }

    private static boolean divides(int operation) {
        return operation == DIVIDE || operation == REST;
    }

    private static int resultOf(int operation, int a, int b) {
        switch (operation) {
            case PLUS:
                return a + b;
            case MINUS:
                return a - b;
            case TIMES:
                return a * b;
            case DIVIDE:
                return b == 0 ? 0 : a / b;
            case REST:
                return b == 0 ? 0 : a % b;
            case AND:
                return a & b;
            case OR:
                return a | b;
            case EITHER:
                return a ^ b;
            case EQUAL:
                return a == b ? 1 : 0;
            case UNEQUAL:
                return a != b ? 1 : 0;
            case LESS:
                return a < b ? 1 : 0;
            default:
                return 0;
        }
    }

    /**
     * The statements of a text. They are numbered as they begin, so the first side of branch s is s + 1 up to
     * second[s], and its second side second[s] up to end[s].
     */
    private static final class Text {
        final int[] sort = new int[STATEMENTS];
        final int[] depth = new int[STATEMENTS];
        final int[] target = new int[STATEMENTS];
        final int[] operation = new int[STATEMENTS];
        final int[] second = new int[STATEMENTS];
        final int[] end = new int[STATEMENTS];
        // Two places a statement, for its first and its second VALUE.
        final boolean[] named = new boolean[2 * STATEMENTS];
        final int[] number = new int[2 * STATEMENTS];
        int size = 0;

        int begin(int openBranches) {
            int s = size;
            sort[s] = SORT_VALUE;
            depth[s] = openBranches;
            target[s] = 0;
            operation[s] = 0;
            second[s] = s + 1;
            end[s] = s + 1;
            size++;
            return s;
        }

        void putValue(int place, boolean isVariable, int what) {
            named[place] = isVariable;
            number[place] = what;
        }
    }

    /** Reads the tape from the left and stops at the first fault, which is then the leftmost one. */
    private static final class TextReader {
        private static final int END = -1;
        private static final long TOO_LARGE = 2147483648L;

        private final int[] tape = new int[TAPE_BYTES];
        int length = 0;
        // Not the text of the face: a tape with a fault must leave that one alone.
        private Text text = new Text();
        private final int[] openBranch = new int[DEEPEST];
        private final boolean[] inSecond = new boolean[DEEPEST];
        private int open = 0;
        private int place = 0;
        int fault = 0;
        int faultPlace = 0;

        void append(int next) {
            if (length < TAPE_BYTES) {
                tape[length] = next;
                length++;
            }
        }

        /** Gives the text that was read, empties the tape, and takes another text to read into from now on. */
        Text handOver(Text another) {
            Text made = text;
            text = another;
            length = 0;
            return made;
        }

        boolean takeTape() {
            text.size = 0;
            open = 0;
            place = 0;
            fault = 0;
            faultPlace = 0;
            // Each round takes a byte at least, or ends the reading.
            for (int round = 0; round <= length; round++) {
                int next = nextByte();
                if (next == END) {
                    return open == 0 || refuse(WRONG_BYTE);
                }
                boolean stands = next == '}' ? closeSide() : takeStatement(next);
                if (!stands) {
                    return false;
                }
            }
            return false;
        }

        private boolean refuse(int number) {
            fault = number;
            faultPlace = place;
            return false;
        }

        private int nextByte() {
            while (place < length && (tape[place] == ' ' || tape[place] == '\n')) {
                place++;
            }
            return place < length ? tape[place] : END;
        }

        private boolean takeByte(int wanted) {
            if (nextByte() != wanted) {
                return refuse(WRONG_BYTE);
            }
            place++;
            return true;
        }

        private boolean closeSide() {
            if (open == 0) {
                return refuse(WRONG_BYTE);
            }
            place++;
            int branch = openBranch[open - 1];
            if (!inSecond[open - 1]) {
                text.second[branch] = text.size;
                if (nextByte() == '{') {
                    place++;
                    inSecond[open - 1] = true;
                    return true;
                }
            }
            text.end[branch] = text.size;
            open--;
            return true;
        }

        private boolean takeStatement(int next) {
            if (!isVariable(next) && next != '@' && next != '!' && next != '?') {
                return refuse(WRONG_BYTE);
            }
            if (text.size >= STATEMENTS) {
                return refuse(MANY_STATEMENTS);
            }
            if (next == '?' && open >= DEEPEST) {
                return refuse(DEEP_BRANCH);
            }
            int s = text.begin(open);
            place++;
            switch (next) {
                case '@':
                    return takeWrite(s);
                case '!':
                    return takeTelling(s);
                case '?':
                    return takeBranch(s);
                default:
                    text.target[s] = next - 'a';
                    return takeSetting(s);
            }
        }

        private boolean takeWrite(int s) {
            text.sort[s] = SORT_WRITE;
            return takeValue(2 * s) && takeByte('=') && takeValue(2 * s + 1) && takeByte(';');
        }

        private boolean takeTelling(int s) {
            text.sort[s] = SORT_TELL;
            return takeValue(2 * s) && takeByte(';');
        }

        private boolean takeBranch(int s) {
            text.sort[s] = SORT_BRANCH;
            if (!takeValue(2 * s)) {
                return false;
            }
            int relation = placeIn(RELATIONS, nextByte());
            if (relation == NONE) {
                return refuse(WRONG_BYTE);
            }
            place++;
            text.operation[s] = EQUAL + relation;
            if (!takeValue(2 * s + 1) || !takeByte('{')) {
                return false;
            }
            openBranch[open] = s;
            inSecond[open] = false;
            open++;
            return true;
        }

        private boolean takeSetting(int s) {
            if (!takeByte('=')) {
                return false;
            }
            if (nextByte() == '@') {
                place++;
                text.sort[s] = SORT_READ;
                return takeValue(2 * s) && takeByte(';');
            }
            if (!takeValue(2 * s)) {
                return false;
            }
            int operation = placeIn(OPERATIONS, nextByte());
            if (operation == NONE) {
                return takeByte(';');
            }
            place++;
            text.sort[s] = SORT_OPERATION;
            text.operation[s] = PLUS + operation;
            return takeValue(2 * s + 1) && takeByte(';');
        }

        private boolean takeValue(int slot) {
            int next = nextByte();
            if (isVariable(next)) {
                place++;
                text.putValue(slot, true, next - 'a');
                return true;
            }
            boolean below = next == '-';
            if (below) {
                place++;
                next = nextByte();
            }
            return isFigure(next) ? takeNumber(slot, below) : refuse(WRONG_BYTE);
        }

        private boolean takeNumber(int slot, boolean below) {
            int begin = place;
            long number = 0;
            while (place < length && isFigure(tape[place])) {
                number = Math.min(number * 10 + (tape[place] - '0'), TOO_LARGE);
                place++;
            }
            if (number >= TOO_LARGE) {
                place = begin;
                return refuse(LARGE_NUMBER);
            }
            text.putValue(slot, false, (int) (below ? -number : number));
            return true;
        }

        private static boolean isVariable(int next) {
            return next >= 'a' && next < 'a' + VARIABLES;
        }

        private static boolean isFigure(int next) {
            return next >= '0' && next <= '9';
        }

        private static int placeIn(String signs, int next) {
            for (int i = 0; i < signs.length(); i++) {
                if (signs.charAt(i) == next) {
                    return i;
                }
            }
            return NONE;
        }
    }

    /** Steps, in rows: their codes, four rows of their numbers, and the statements that they tell. */
    private static final class Code {
        static final int ROWS = 6;
        static final int NEW = -1;
        private static final int TOLD = 5;
        // By code: in which rows a step has the registers that it takes (none if the last is before the first).
        private static final int[] FIRST_TAKEN = {2, 2, 2, 2, 2, 2, 2, 2, 2, 2, 2, 2, 2, 2, 2, 1, 1, 1, 1};
        private static final int[] LAST_TAKEN = {1, 2, 3, 3, 3, 3, 3, 3, 3, 3, 3, 3, 3, 4, 2, 2, 0, 1, 1};

        final int[][] rows = new int[ROWS][STEPS];
        int steps = 0;
        int registers = VARIABLES;
        int statement = 0;
        private final boolean[] taken = new boolean[VARIABLES + STEPS];
        private final boolean[] stays = new boolean[STEPS];
        private final int[] placeThen = new int[STEPS + 1];

        void clear() {
            steps = 0;
            registers = VARIABLES;
        }

        /** Adds a step and tells its first number; NEW makes that the next register. */
        int add(int kind, int first, int second, int third, int fourth) {
            if (steps >= STEPS) {
                return 0;
            }
            int named = first;
            if (first == NEW) {
                named = registers;
                registers++;
            }
            rows[0][steps] = kind;
            rows[1][steps] = named;
            rows[2][steps] = second;
            rows[3][steps] = third;
            rows[4][steps] = fourth;
            rows[TOLD][steps] = statement;
            steps++;
            return named;
        }

        void leadHere(int jump) {
            if (jump >= 0 && jump < steps) {
                rows[leadRow(jump)][jump] = steps;
            }
        }

        private int leadRow(int jump) {
            return rows[0][jump] == JUMP ? 1 : 2;
        }

        private boolean isJump(int i) {
            return rows[0][i] == JUMP || rows[0][i] == JUMPNOT;
        }

        int jumps() {
            int found = 0;
            for (int i = 0; i < steps; i++) {
                found += isJump(i) ? 1 : 0;
            }
            return found;
        }

        int stepsOf(int s) {
            int found = 0;
            for (int i = 0; i < steps; i++) {
                found += rows[TOLD][i] == s ? 1 : 0;
            }
            return found;
        }

        int dropUseless() {
            findUseless();
            int before = steps;
            placeThen[0] = 0;
            for (int i = 0; i < before; i++) {
                placeThen[i + 1] = placeThen[i] + (stays[i] ? 1 : 0);
            }
            for (int i = 0; i < before; i++) {
                if (stays[i]) {
                    shift(i, placeThen[i]);
                }
            }
            steps = placeThen[before];
            return before - steps;
        }

        // A register is set ahead of all that take it, so one way from the back finds those, too, that only useless
        // steps take.
        private void findUseless() {
            for (int register = 0; register < taken.length; register++) {
                taken[register] = false;
            }
            for (int i = steps - 1; i >= 0; i--) {
                stays[i] = !mayGo(i) || taken[rows[1][i]];
                if (stays[i]) {
                    markTaken(i);
                }
            }
        }

        private boolean mayGo(int i) {
            int kind = rows[0][i];
            return kind <= CHOOSE && !divides(kind) && rows[1][i] >= VARIABLES;
        }

        private void markTaken(int i) {
            int kind = rows[0][i];
            for (int row = FIRST_TAKEN[kind]; row <= LAST_TAKEN[kind]; row++) {
                taken[rows[row][i]] = true;
            }
        }

        private void shift(int from, int to) {
            if (isJump(from)) {
                int row = leadRow(from);
                rows[row][from] = placeThen[rows[row][from]];
            }
            for (int row = 0; row < ROWS; row++) {
                rows[row][to] = rows[row][from];
            }
        }
    }

    /** Makes code of a text: first it finds which branches are converted, then it lowers the whole. */
    private static final class Lowering {
        final Code code = new Code();
        final boolean[] converted = new boolean[STATEMENTS];
        // The registers that stand for the variables now; by level those before a branch, and behind its first side.
        private final int[] standing = new int[VARIABLES];
        private final int[][] before = new int[DEEPEST][VARIABLES];
        private final int[][] behindFirst = new int[DEEPEST][VARIABLES];
        // NONE outside of converted sides.
        private int guard = NONE;

        int convertedBranches() {
            int found = 0;
            for (int s = 0; s < STATEMENTS; s++) {
                found += converted[s] ? 1 : 0;
            }
            return found;
        }

        void makeCode(Text text, int limit) {
            for (int s = 0; s < STATEMENTS; s++) {
                converted[s] = false;
            }
            // Inner branches have higher numbers, so they are settled ahead of those round them.
            for (int s = text.size - 1; s >= 0; s--) {
                if (mayConvert(text, s)) {
                    beginCode();
                    convert(text, s, 0);
                    converted[s] = code.steps <= limit;
                }
            }
            beginCode();
            lowerRange(text, 0, text.size, 0);
        }

        private void beginCode() {
            code.clear();
            guard = NONE;
            for (int v = 0; v < VARIABLES; v++) {
                standing[v] = v;
            }
        }

        private boolean mayConvert(Text text, int branch) {
            for (int s = branch + 1; s < text.end[branch]; s++) {
                boolean staysBranch = text.sort[s] == SORT_BRANCH && !converted[s];
                if (staysBranch || text.sort[s] == SORT_TELL) {
                    return false;
                }
            }
            return text.sort[branch] == SORT_BRANCH;
        }

        private void lowerRange(Text text, int from, int to, int level) {
            for (int s = from; s < to; s = Math.max(s + 1, text.end[s])) {
                code.statement = s;
                if (converted[s]) {
                    convert(text, s, level);
                } else if (text.sort[s] == SORT_BRANCH) {
                    lowerWithJumps(text, s, level);
                } else if (guard == NONE) {
                    lowerPlainly(text, s);
                } else {
                    lowerGuarded(text, s);
                }
            }
        }

        private int valueRegister(Text text, int slot) {
            int number = text.number[slot];
            return text.named[slot] ? standing[number] : code.add(SET, Code.NEW, number, 0, 0);
        }

        private int testRegister(Text text, int branch) {
            int first = valueRegister(text, 2 * branch);
            int second = valueRegister(text, 2 * branch + 1);
            return code.add(text.operation[branch], Code.NEW, first, second, 0);
        }

        private void lowerPlainly(Text text, int s) {
            int target = text.target[s];
            if (text.sort[s] == SORT_VALUE && !text.named[2 * s]) {
                code.add(SET, target, text.number[2 * s], 0, 0);
                return;
            }
            int first = valueRegister(text, 2 * s);
            switch (text.sort[s]) {
                case SORT_VALUE:
                    code.add(MOVE, target, first, 0, 0);
                    break;
                case SORT_OPERATION:
                    code.add(text.operation[s], target, first, valueRegister(text, 2 * s + 1), 0);
                    break;
                case SORT_READ:
                    code.add(LOAD, target, first, 0, 0);
                    break;
                case SORT_WRITE:
                    code.add(STORE, first, valueRegister(text, 2 * s + 1), 0, 0);
                    break;
                default:
                    code.add(TELL, first, 0, 0, 0);
                    break;
            }
        }

        private void lowerWithJumps(Text text, int branch, int level) {
            if (level >= DEEPEST) {
                return;
            }
            int test = testRegister(text, branch);
            int overFirst = code.steps;
            code.add(JUMPNOT, test, 0, 0, 0);
            lowerRange(text, branch + 1, text.second[branch], level + 1);
            if (text.second[branch] == text.end[branch]) {
                code.leadHere(overFirst);
                return;
            }
            code.statement = branch;
            int overSecond = code.steps;
            code.add(JUMP, 0, 0, 0, 0);
            code.leadHere(overFirst);
            lowerRange(text, text.second[branch], text.end[branch], level + 1);
            code.leadHere(overSecond);
        }

        private void lowerGuarded(Text text, int s) {
            int target = text.target[s];
            int first = valueRegister(text, 2 * s);
            switch (text.sort[s]) {
                case SORT_VALUE:
                    standing[target] = first;
                    break;
                case SORT_OPERATION:
                    int second = harmlessDivisor(text, s, valueRegister(text, 2 * s + 1));
                    standing[target] = code.add(text.operation[s], Code.NEW, first, second, 0);
                    break;
                case SORT_READ:
                    int index = harmlessIndex(text, s, first);
                    standing[target] = code.add(LOAD, Code.NEW, index, 0, 0);
                    break;
                default:
                    int value = valueRegister(text, 2 * s + 1);
                    guardedWrite(harmlessIndex(text, s, first), value);
                    break;
            }
        }

        /** The second VALUE's register, or, where that may be 0, one that is 1 while the side is not meant. */
        private int harmlessDivisor(Text text, int s, int register) {
            boolean maybeZero = text.named[2 * s + 1] || text.number[2 * s + 1] == 0;
            return divides(text.operation[s]) && maybeZero ? chosenOr(register, 1) : register;
        }

        /** The first VALUE's register, or, where that may be no word, one that is 0 while the side is not meant. */
        private int harmlessIndex(Text text, int s, int register) {
            boolean surelyWord = !text.named[2 * s] && isWord(text.number[2 * s]);
            return surelyWord ? register : chosenOr(register, 0);
        }

        private int chosenOr(int register, int harmless) {
            int other = code.add(SET, Code.NEW, harmless, 0, 0);
            return code.add(CHOOSE, Code.NEW, guard, register, other);
        }

        private void guardedWrite(int index, int value) {
            int word = code.add(LOAD, Code.NEW, index, 0, 0);
            int chosen = code.add(CHOOSE, Code.NEW, guard, value, word);
            code.add(STORE, index, chosen, 0, 0);
        }

        private void convert(Text text, int branch, int level) {
            if (level >= DEEPEST) {
                return;
            }
            int outerGuard = guard;
            int test = testRegister(text, branch);
            System.arraycopy(standing, 0, before[level], 0, VARIABLES);
            if (branch + 1 < text.second[branch]) {
                guard = guardWithin(outerGuard, test);
                lowerRange(text, branch + 1, text.second[branch], level + 1);
            }
            System.arraycopy(standing, 0, behindFirst[level], 0, VARIABLES);
            System.arraycopy(before[level], 0, standing, 0, VARIABLES);
            code.statement = branch;
            if (text.second[branch] < text.end[branch]) {
                int zero = code.add(SET, Code.NEW, 0, 0, 0);
                int isNot = code.add(EQUAL, Code.NEW, test, zero, 0);
                guard = guardWithin(outerGuard, isNot);
                lowerRange(text, text.second[branch], text.end[branch], level + 1);
            }
            code.statement = branch;
            guard = outerGuard;
            chooseSides(test, level);
            if (outerGuard == NONE) {
                moveBack();
            }
        }

        private int guardWithin(int outerGuard, int own) {
            return outerGuard == NONE ? own : code.add(AND, Code.NEW, outerGuard, own, 0);
        }

        private void chooseSides(int test, int level) {
            for (int v = 0; v < VARIABLES; v++) {
                int first = behindFirst[level][v];
                int second = standing[v];
                if (first != before[level][v] || second != before[level][v]) {
                    standing[v] = code.add(CHOOSE, Code.NEW, test, first, second);
                }
            }
        }

        private void moveBack() {
            for (int v = 0; v < VARIABLES; v++) {
                if (standing[v] != v) {
                    code.add(MOVE, v, standing[v], 0, 0);
                    standing[v] = v;
                }
            }
        }
    }

    /** Does texts as they are told, and code, and keeps what the latest run left. */
    private static final class LatestRun {
        // The variables come first, as in the code.
        final int[] register = new int[VARIABLES + STEPS];
        final int[] words = new int[WORDS];
        final int[] output = new int[STATEMENTS];
        int outputs = 0;
        int ended = WELL;
        int where = NONE;
        int did = 0;

        void begin(int[] putVariables, int[] putWords) {
            Arrays.fill(register, 0);
            System.arraycopy(putVariables, 0, register, 0, VARIABLES);
            System.arraycopy(putWords, 0, words, 0, WORDS);
            outputs = 0;
            ended = WELL;
            where = NONE;
            did = 0;
        }

        void doText(Text text) {
            doRange(text, 0, text.size, 0);
        }

        private void doRange(Text text, int from, int to, int level) {
            for (int s = from; s < to && ended == WELL; s = Math.max(s + 1, text.end[s])) {
                did++;
                if (text.sort[s] == SORT_BRANCH) {
                    doBranch(text, s, level);
                } else {
                    doSimple(text, s);
                }
            }
        }

        private void doBranch(Text text, int s, int level) {
            if (level >= DEEPEST) {
                return;
            }
            if (resultOf(text.operation[s], valueOf(text, 2 * s), valueOf(text, 2 * s + 1)) != 0) {
                doRange(text, s + 1, text.second[s], level + 1);
            } else {
                doRange(text, text.second[s], text.end[s], level + 1);
            }
        }

        private int valueOf(Text text, int slot) {
            return text.named[slot] ? register[text.number[slot]] : text.number[slot];
        }

        private void doSimple(Text text, int s) {
            int first = valueOf(text, 2 * s);
            switch (text.sort[s]) {
                case SORT_VALUE:
                    register[text.target[s]] = first;
                    break;
                case SORT_OPERATION:
                    reach(text.operation[s], text.target[s], first, valueOf(text, 2 * s + 1), s);
                    break;
                case SORT_READ:
                    load(text.target[s], first, s);
                    break;
                case SORT_WRITE:
                    store(first, valueOf(text, 2 * s + 1), s);
                    break;
                default:
                    say(first);
                    break;
            }
        }

        void doCode(Code code) {
            int next = 0;
            // Jumps lead onward alone, so each round comes nearer to the last step.
            for (int i = 0; i < code.steps && ended == WELL; i = Math.max(i + 1, next)) {
                did++;
                next = nextBehind(code, i);
                doStep(code, i);
            }
        }

        private int nextBehind(Code code, int i) {
            if (code.rows[0][i] == JUMP) {
                return code.rows[1][i];
            }
            boolean leads = code.rows[0][i] == JUMPNOT && register[code.rows[1][i]] == 0;
            return leads ? code.rows[2][i] : i + 1;
        }

        private void doStep(Code code, int i) {
            int kind = code.rows[0][i];
            int first = code.rows[1][i];
            int second = code.rows[2][i];
            int s = code.rows[Code.TOLD][i];
            switch (kind) {
                case SET:
                    register[first] = second;
                    break;
                case MOVE:
                    register[first] = register[second];
                    break;
                case CHOOSE:
                    register[first] = register[register[second] != 0 ? code.rows[3][i] : code.rows[4][i]];
                    break;
                case LOAD:
                    load(first, register[second], s);
                    break;
                case STORE:
                    store(register[first], register[second], s);
                    break;
                case JUMP:
                case JUMPNOT:
                    break;
                case TELL:
                    say(register[first]);
                    break;
                default:
                    reach(kind, first, register[second], register[code.rows[3][i]], s);
                    break;
            }
        }

        private void reach(int operation, int target, int a, int b, int s) {
            if (divides(operation) && b == 0) {
                end(DIVISION, s);
            } else {
                register[target] = resultOf(operation, a, b);
            }
        }

        private void load(int target, int index, int s) {
            if (isWord(index)) {
                register[target] = words[index];
            } else {
                end(INDEX, s);
            }
        }

        private void store(int index, int value, int s) {
            if (isWord(index)) {
                words[index] = value;
            } else {
                end(INDEX, s);
            }
        }

        private void say(int number) {
            if (outputs < STATEMENTS) {
                output[outputs] = number;
                outputs++;
            }
        }

        private void end(int how, int s) {
            ended = how;
            where = s;
        }
    }
}
