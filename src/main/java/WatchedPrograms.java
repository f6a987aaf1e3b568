/** What a watcher learns of small programs. The document is shared/DOC.md; README.md tells how to use it. */
public final class WatchedPrograms {
    public static final int BAD = -1, STATE = -2, FULL = -3, NONE = -9;

    private static final int CELLS = 6;
    /** Numbers of all cells as one: two bits a cell, cell a the lowest. A set of cells is told as such a mask, too. */
    private static final int ALL_CELLS = 4095;
    private static final int WATCHERS = 4;
    private static final int TEXT_LIMIT = 300;
    private static final int STATEMENT_LIMIT = 30;
    private static final int BRACE_LIMIT = 6;
    private static final int STEP_LIMIT = 400;
    private static final int TAPE_LIMIT = 20;
    private static final int STOP_LIMIT = 8;
    private static final int FAULT_BASE = -10;

    private final int[] levels;
    private final Text text;
    private final Parser parser;
    private final Machine latest;
    private final Watch watch;
    private final Flow flow;
    private Program program;

    public WatchedPrograms() {
        levels = new int[CELLS];
        text = new Text();
        parser = new Parser();
        latest = new Machine();
        watch = new Watch();
        flow = new Flow();
        program = new Program();
    }

    // ---- cells, programs

    public int level(int cell, int v) {
        if (!isCell(cell) || !isLevel(v)) return BAD;
        int was = levels[cell];
        levels[cell] = v;
        return was;
    }

    public int type(long v, int n) {
        if (n < 1 || n > 8) return BAD;
        if (text.length + n > TEXT_LIMIT) return FULL;
        for (int k = n - 1; k >= 0; k--) text.append((int) (v >>> (8 * k)) & 255);
        return text.length;
    }

    public int clear() {
        int had = text.length;
        text.length = 0;
        return had;
    }

    public int read() {
        int fault = parser.parse(text);
        if (fault >= 0) return FAULT_BASE - fault;
        program = parser.exchange(program);
        text.length = 0;
        watch.forget();
        return program.size;
    }

    public int run(int numbers) {
        if (numbers < 0 || numbers > ALL_CELLS) return BAD;
        latest.execute(program, numbers, 0);
        return latest.numbers;
    }

    public int ran(int what) {
        switch (what) {
            case 0: return latest.steps;
            case 1: return latest.cameOut;
            case 2: return latest.kept();
            default: return BAD;
        }
    }

    public int tape(int i, int what) {
        if (i < 0 || i >= latest.kept() || !isFlag(what)) return BAD;
        return what == 0 ? latest.tapeNumbers[i] : latest.tapeLevels[i];
    }

    // ---- what is learnt

    public int heaps(int w, int time, int open, int what) {
        if (!isWatched(w, time, what)) return BAD;
        int cells = cellsWithin(w);
        if (!isPacked(open, cells)) return BAD;
        watch.aim(program, w, cells, time);
        int many = watch.countHeaps(spread(open, cells));
        return what == 0 ? many : watch.greatestHeap();
    }

    public int heap(int w, int time, int open, int secret, int what) {
        if (!isWatched(w, time, what)) return BAD;
        int cells = cellsWithin(w);
        int hidden = ALL_CELLS & ~cells;
        if (!isPacked(open, cells) || !isPacked(secret, hidden)) return BAD;
        watch.aim(program, w, cells, time);
        int least = watch.findHeap(spread(open, cells), spread(secret, hidden));
        return what == 0 ? watch.foundSize() : gather(least, hidden);
    }

    public int safe(int w, int time) {
        if (!isWatched(w, time, 0)) return BAD;
        return isSafe(w, time) ? 1 : 0;
    }

    public int pair(int w, int time, int what) {
        if (!isWatched(w, time, what)) return BAD;
        if (isSafe(w, time)) return NONE;
        int cells = cellsWithin(w);
        return what == 0 ? gather(watch.pairOpen, cells) : gather(watch.pairSecret, ALL_CELLS & ~cells);
    }

    public int most(int w, int time, int what) {
        if (!isWatched(w, time, what)) return BAD;
        int cells = cellsWithin(w);
        watch.aim(program, w, cells, time);
        int open = watch.tellsMost();
        return what == 0 ? gather(open, cells) : watch.mostHeaps;
    }

    public int together(int w, int time, int open, int other) {
        if (!isWatched(w, time, 0)) return BAD;
        int cells = cellsWithin(w);
        if (!isPacked(open, cells) || !isPacked(other, cells)) return BAD;
        watch.aim(program, w, cells, time);
        return watch.countTogether(spread(open, cells), spread(other, cells));
    }

    public int both(int time, int open) {
        if (!isFlag(time)) return BAD;
        int cells = cellsWithin(0);
        if (!isPacked(open, cells)) return BAD;
        watch.aim(program, 0, cells, time);
        return watch.countBoth(spread(open, cells), cellsWithin(1), cellsWithin(2));
    }

    // ---- rules of flow

    public int flows(int what) {
        if (!isFlag(what)) return BAD;
        flow.measure(program, levels);
        return what == 0 ? flow.countLeaks(program, levels) : flow.firstLeak(program, levels);
    }

    public int statement(int i, int what) {
        if (i < 0 || i >= program.size || what < 0 || what > 3) return BAD;
        flow.measure(program, levels);
        switch (what) {
            case 0: return flow.held[i];
            case 1: return flow.sums[i];
            case 2: return flow.leaks(program, levels, i) ? 1 : 0;
            default: return program.statements[i].kind;
        }
    }

    public int raised(int cell) {
        if (!isCell(cell)) return BAD;
        return flow.raise(program, levels, cell);
    }

    public int stop(int w, int time, int what) {
        if (!isWatched(w, time, what)) return BAD;
        if (program.outs > STOP_LIMIT) return STATE;
        watch.aim(program, w, cellsWithin(w), time);
        int set = watch.fewestStopped();
        if (set < 0) return NONE;
        return what == 0 ? Integer.bitCount(set) : set;
    }

    public int tooMuch() {
        flow.measure(program, levels);
        if (flow.countLeaks(program, levels) == 0) return 0;
        return isSafe(0, 0) && isSafe(1, 0) && isSafe(2, 0) ? 1 : 0;
    }

    public int count(int what) {
        switch (what) {
            case 0: return program.size;
            case 1: return program.outs;
            case 2: return text.length;
            default: return what >= 3 && what <= 6 ? countCells(what - 3) : BAD;
        }
    }

    // ---- the face's helpers

    private static boolean isCell(int cell) {
        return cell >= 0 && cell < CELLS;
    }

    private static boolean isLevel(int v) {
        return v >= 0 && v <= 3;
    }

    private static boolean isFlag(int v) {
        return v == 0 || v == 1;
    }

    private static boolean isWatched(int w, int time, int what) {
        return isLevel(w) && isFlag(time) && isFlag(what);
    }

    private static boolean isPacked(int packed, int cells) {
        return packed >= 0 && packed < numbersOf(cells);
    }

    private static boolean isWithin(int level, int other) {
        return (level & ~other) == 0;
    }

    private boolean isSafe(int w, int time) {
        watch.aim(program, w, cellsWithin(w), time);
        return !watch.findPair(0);
    }

    private int cellsWithin(int w) {
        int cells = 0;
        for (int c = 0; c < CELLS; c++) {
            if (isWithin(levels[c], w)) cells |= 3 << (2 * c);
        }
        return cells;
    }

    private int countCells(int level) {
        int many = 0;
        for (int c = 0; c < CELLS; c++) {
            if (levels[c] == level) many++;
        }
        return many;
    }

    // ---- numbers of some cells, in their own places or told as one number

    /** How many numbers a set of cells can hold. */
    private static int numbersOf(int cells) {
        return 1 << Integer.bitCount(cells);
    }

    /** From one number that tells those of the cells to numbers in the cells' places. */
    private static int spread(int packed, int cells) {
        int numbers = 0;
        int rest = packed;
        for (int at = 0; at < 2 * CELLS; at += 2) {
            if ((cells >>> at & 1) != 0) {
                numbers |= (rest & 3) << at;
                rest >>>= 2;
            }
        }
        return numbers;
    }

    /** The way back from spread. */
    private static int gather(int numbers, int cells) {
        int packed = 0;
        int to = 0;
        for (int at = 0; at < 2 * CELLS; at += 2) {
            if ((cells >>> at & 1) != 0) {
                packed |= (numbers >>> at & 3) << to;
                to += 2;
            }
        }
        return packed;
    }

    /** The next greater numbers of these cells (0 behind the greatest): the carry runs over all other bits. */
    private static int following(int numbers, int cells) {
        return ((numbers | ~cells) + 1) & cells;
    }

    /** The bytes typed so far. */
    private static final class Text {
        final int[] bytes = new int[TEXT_LIMIT];
        int length;

        void append(int b) {
            if (length < bytes.length) bytes[length++] = b;
        }

        int at(int i) {
            return i >= 0 && i < length ? bytes[i] : -1;
        }
    }

    /** Cuts a text into tokens and goes through them, one at hand at a time. A sign's kind is its own byte. */
    private static final class Tokens {
        static final int END = 0, WRONG = 1, CELL = 2, NUMBER = 3, OUT = 4, IF = 5, ELSE = 6, LOOP = 7;
        private static final String SIGNS = "=;{}+-*&!()<";
        private static final int SPELLS_OUT = 'o' << 16 | 'u' << 8 | 't', SPELLS_IF = 'i' << 8 | 'f';
        private static final int SPELLS_ELSE = 'e' << 24 | 'l' << 16 | 's' << 8 | 'e';
        private static final int SPELLS_LOOP = 'l' << 24 | 'o' << 16 | 'o' << 8 | 'p';
        private static final int LONGEST_WORD = 4;

        private final int[] kinds = new int[TEXT_LIMIT + 1];
        private final int[] values = new int[TEXT_LIMIT + 1];
        private final int[] places = new int[TEXT_LIMIT + 1];
        private int many;
        private int at;
        int kind;
        int value;
        int place;

        /** Cuts the whole text and takes its first token at hand. */
        void cut(Text text) {
            many = 0;
            int p = 0;
            while (p < text.length) {
                int b = text.at(p);
                int behind = p + 1;
                if (isLetter(b)) behind = takeWord(text, p);
                else if (isFigure(b)) behind = takeNumber(text, p);
                else if (b != ' ') add(SIGNS.indexOf((char) b) >= 0 ? b : WRONG, 0, p);
                p = Math.max(p + 1, behind);
            }
            add(END, 0, text.length);
            at = -1;
            advance();
        }

        /** END stays at hand for ever. */
        void advance() {
            if (at + 1 >= many) return;
            at++;
            kind = kinds[at];
            value = values[at];
            place = places[at];
        }

        private void add(int newKind, int newValue, int newPlace) {
            if (many >= kinds.length) return;
            kinds[many] = newKind;
            values[many] = newValue;
            places[many] = newPlace;
            many++;
        }

        /** The place behind the word. */
        private int takeWord(Text text, int from) {
            int p = from;
            int spelt = 0;
            while (p < text.length && isLetter(text.at(p))) {
                spelt = spelt << 8 | text.at(p);
                p++;
            }
            if (p == from + 1 && spelt >= 'a' && spelt < 'a' + CELLS) add(CELL, spelt - 'a', from);
            else add(p - from > LONGEST_WORD ? WRONG : wordKind(spelt), 0, from);
            return p;
        }

        private static int wordKind(int spelt) {
            switch (spelt) {
                case SPELLS_OUT: return OUT;
                case SPELLS_IF: return IF;
                case SPELLS_ELSE: return ELSE;
                case SPELLS_LOOP: return LOOP;
                default: return WRONG;
            }
        }

        /** The place behind the number. */
        private int takeNumber(Text text, int from) {
            int p = from;
            while (p < text.length && isFigure(text.at(p))) p++;
            add(p == from + 1 ? NUMBER : WRONG, text.at(from) - '0', from);
            return p;
        }

        private static boolean isLetter(int b) {
            return b >= 'a' && b <= 'z' || b >= 'A' && b <= 'Z';
        }

        private static boolean isFigure(int b) {
            return b >= '0' && b <= '9';
        }
    }

    /** One statement; its own number is its place in the program. */
    private static final class Statement {
        static final int ASSIGN = 0, OUT = 1, IF = 2, LOOP = 3;

        int kind;
        /** The cell of an assignment, the level of an out, the times of a loop. */
        int target;
        /** Which out of the program this is, from 0. */
        int outNumber;
        /** The statement that this one stands under, or -1. */
        int parent;
        /** Its sum lies in the program's code from here .. */
        int codeFrom;
        /** .. to ahead of here. */
        int codeTo;
        /** The cells of its sum, as a mask. */
        int cells;
        /** The first statement behind what stands under it (of an if: behind what is done if not 0). */
        int middle;
        /** The first statement behind all that stands under it. */
        int end;

        void reset(int under) {
            kind = ASSIGN;
            target = 0;
            outNumber = 0;
            parent = under;
            codeFrom = 0;
            codeTo = 0;
            cells = 0;
            middle = 0;
            end = 0;
        }
    }

    /** A program that was read: statements in order of their first tokens, sums as postfix code. */
    private static final class Program {
        /** Codes below this one are numbers. */
        static final int FIRST_CELL = 4;
        /** From FIRST_CELL to here: how far a cell's number is to be shifted, and FIRST_CELL. */
        static final int FIRST_SIGN = 16;
        static final int PLUS = 16, MINUS = 17, TIMES = 18, AND = 19, NOT = 20, LESS = 21, SAME = 22;

        final Statement[] statements = new Statement[STATEMENT_LIMIT];
        final int[] code = new int[TEXT_LIMIT];
        int size;
        int codeSize;
        int outs;
        /** All cells that occur: the others neither change nor matter in a run. */
        int used;

        Program() {
            for (int i = 0; i < STATEMENT_LIMIT; i++) statements[i] = new Statement();
        }

        void reset() {
            size = 0;
            codeSize = 0;
            outs = 0;
            used = 0;
        }

        boolean isFull() {
            return size >= STATEMENT_LIMIT;
        }

        /** A new statement behind the others; asked for only while it is not full. */
        Statement append(int parent) {
            int i = Math.min(size, STATEMENT_LIMIT - 1);
            size = i + 1;
            statements[i].reset(parent);
            return statements[i];
        }

        void emit(int operation) {
            if (codeSize < code.length) code[codeSize++] = operation;
        }
    }

    /** Reads a text into a program. Wherever it gives up, the fault is the token at hand. */
    private static final class Parser {
        private static final int NESTING_LIMIT = 8;
        private static final int OPERAND_LIMIT = 24;

        private final Tokens tokens = new Tokens();
        private Program program = new Program();
        private int operands;
        private int cells;

        /** The place of the fault, or -1. */
        int parse(Text text) {
            program.reset();
            tokens.cut(text);
            boolean whole = takeStatements(-1, 0) && tokens.kind == Tokens.END;
            return whole ? -1 : tokens.place;
        }

        /** Gives the program that was read away for one to be written over. */
        Program exchange(Program old) {
            Program whole = program;
            program = old;
            return whole;
        }

        private boolean take(int kind) {
            if (tokens.kind != kind) return false;
            tokens.advance();
            return true;
        }

        private boolean beginsStatement() {
            int kind = tokens.kind;
            return kind == Tokens.CELL || kind == Tokens.OUT || kind == Tokens.IF || kind == Tokens.LOOP;
        }

        private boolean takeStatements(int parent, int braces) {
            for (int k = 0; k <= STATEMENT_LIMIT && beginsStatement(); k++) {
                if (program.isFull() || !takeStatement(parent, braces)) return false;
            }
            return true;
        }

        private boolean takeStatement(int parent, int braces) {
            int self = program.size;
            Statement s = program.append(parent);
            boolean whole;
            switch (tokens.kind) {
                case Tokens.CELL: whole = takeAssignment(s); break;
                case Tokens.OUT: whole = takeOut(s); break;
                case Tokens.IF: whole = takeIf(s, self, braces); break;
                default: whole = takeLoop(s, self, braces); break;
            }
            s.end = program.size;
            program.used |= s.cells;
            return whole;
        }

        private boolean takeAssignment(Statement s) {
            s.kind = Statement.ASSIGN;
            s.target = tokens.value;
            program.used |= 3 << (2 * s.target);
            tokens.advance();
            return take('=') && takeWholeSum(s) && take(';');
        }

        private boolean takeOut(Statement s) {
            s.kind = Statement.OUT;
            s.outNumber = program.outs++;
            tokens.advance();
            return takeNumber(s, 3) && takeWholeSum(s) && take(';');
        }

        private boolean takeIf(Statement s, int self, int braces) {
            s.kind = Statement.IF;
            tokens.advance();
            if (!takeWholeSum(s) || !takeBraced(self, braces)) return false;
            s.middle = program.size;
            return !take(Tokens.ELSE) || takeBraced(self, braces);
        }

        private boolean takeLoop(Statement s, int self, int braces) {
            s.kind = Statement.LOOP;
            tokens.advance();
            return takeNumber(s, 8) && takeBraced(self, braces);
        }

        private boolean takeNumber(Statement s, int greatest) {
            s.target = tokens.value;
            return tokens.value <= greatest && take(Tokens.NUMBER);
        }

        private boolean takeBraced(int parent, int braces) {
            return braces < BRACE_LIMIT && take('{') && takeStatements(parent, braces + 1) && take('}');
        }

        private boolean takeWholeSum(Statement s) {
            operands = 0;
            cells = 0;
            s.codeFrom = program.codeSize;
            boolean whole = takeSum(0);
            s.codeTo = program.codeSize;
            s.cells = cells;
            return whole;
        }

        private boolean takeSum(int nesting) {
            if (!takeTerm(nesting)) return false;
            for (int k = 0; k < TEXT_LIMIT && (tokens.kind == '+' || tokens.kind == '-'); k++) {
                int operation = tokens.kind == '+' ? Program.PLUS : Program.MINUS;
                tokens.advance();
                if (!takeTerm(nesting)) return false;
                program.emit(operation);
            }
            return true;
        }

        private boolean takeTerm(int nesting) {
            if (!takeFactor(nesting)) return false;
            for (int k = 0; k < TEXT_LIMIT && (tokens.kind == '*' || tokens.kind == '&'); k++) {
                int operation = tokens.kind == '*' ? Program.TIMES : Program.AND;
                tokens.advance();
                if (!takeFactor(nesting)) return false;
                program.emit(operation);
            }
            return true;
        }

        private boolean takeFactor(int nesting) {
            switch (tokens.kind) {
                case Tokens.NUMBER: return tokens.value <= 3 && takeOperand(tokens.value);
                case Tokens.CELL:
                    cells |= 3 << (2 * tokens.value);
                    return takeOperand(Program.FIRST_CELL + 2 * tokens.value);
                case '!':
                    if (nesting >= NESTING_LIMIT) return false;
                    tokens.advance();
                    if (!takeFactor(nesting + 1)) return false;
                    program.emit(Program.NOT);
                    return true;
                case '(':
                    if (nesting >= NESTING_LIMIT) return false;
                    tokens.advance();
                    return takeSum(nesting + 1) && takeComparison(nesting + 1) && take(')');
                default: return false;
            }
        }

        private boolean takeOperand(int operation) {
            if (operands >= OPERAND_LIMIT) return false;
            operands++;
            program.emit(operation);
            tokens.advance();
            return true;
        }

        /** What may follow the first sum in brackets. */
        private boolean takeComparison(int nesting) {
            if (tokens.kind != '<' && tokens.kind != '=') return true;
            int operation = tokens.kind == '<' ? Program.LESS : Program.SAME;
            tokens.advance();
            if (!takeSum(nesting)) return false;
            program.emit(operation);
            return true;
        }
    }

    /** Runs a program and keeps what the run left. */
    private static final class Machine {
        final int[] tapeNumbers = new int[TAPE_LIMIT];
        final int[] tapeLevels = new int[TAPE_LIMIT];
        int numbers;
        int steps;
        int cameOut;

        /** Outs whose bits are in the set 'without' are passed by. */
        void execute(Program p, int from, int without) {
            numbers = from;
            steps = 0;
            cameOut = 0;
            doStatements(p, 0, p.size, without, 0);
        }

        int kept() {
            return Math.min(cameOut, TAPE_LIMIT);
        }

        private void doStatements(Program p, int from, int to, int without, int braces) {
            if (braces > BRACE_LIMIT) return;
            int i = from;
            while (i < to && i < STATEMENT_LIMIT && steps < STEP_LIMIT) {
                Statement s = p.statements[i];
                if (s.kind != Statement.OUT || (without >>> s.outNumber & 1) == 0) {
                    steps++;
                    switch (s.kind) {
                        case Statement.ASSIGN:
                            assign(s.target, valueOf(p, s));
                            break;
                        case Statement.OUT:
                            putOut(valueOf(p, s), s.target);
                            break;
                        case Statement.IF:
                            if (valueOf(p, s) != 0) doStatements(p, i + 1, s.middle, without, braces + 1);
                            else doStatements(p, s.middle, s.end, without, braces + 1);
                            break;
                        default:
                            for (int k = 0; k < s.target; k++) doStatements(p, i + 1, s.end, without, braces + 1);
                            break;
                    }
                }
                i = Math.max(i + 1, s.end);
            }
        }

        private void assign(int cell, int number) {
            int at = 2 * cell;
            numbers = numbers & ~(3 << at) | number << at;
        }

        private void putOut(int number, int level) {
            if (cameOut < TAPE_LIMIT) {
                tapeNumbers[cameOut] = number;
                tapeLevels[cameOut] = level;
            }
            cameOut++;
        }

        /** The stack of numbers is one long, two bits each: a sum has at most 24 operands. */
        private int valueOf(Program p, Statement s) {
            long stack = 0;
            for (int i = s.codeFrom; i < s.codeTo && i < TEXT_LIMIT; i++) {
                int operation = p.code[i];
                if (operation < Program.FIRST_CELL) {
                    stack = stack << 2 | operation;
                } else if (operation < Program.FIRST_SIGN) {
                    stack = stack << 2 | (numbers >>> (operation - Program.FIRST_CELL) & 3);
                } else if (operation == Program.NOT) {
                    stack = stack & ~3L | ((stack & 3) == 0 ? 1 : 0);
                } else {
                    int left = (int) (stack >>> 2) & 3;
                    int right = (int) stack & 3;
                    int result;
                    switch (operation) {
                        case Program.PLUS: result = left + right; break;
                        case Program.MINUS: result = left - right; break;
                        case Program.TIMES: result = left * right; break;
                        case Program.AND: result = left & right; break;
                        case Program.LESS: result = left < right ? 1 : 0; break;
                        default: result = left == right ? 1 : 0; break;
                    }
                    stack = stack >>> 4 << 2 | (result & 3);
                }
            }
            return (int) stack & 3;
        }
    }

    /** Counts heaps: how many different pairs of views were put in, and how often each. */
    private static final class HeapTable {
        private static final int MOST = ALL_CELLS + 1;
        private static final long SPREAD_FIRST = 0x9E3779B97F4A7C15L, SPREAD_SECOND = 0xC2B2AE3D27D4EB4FL;

        private final long[] firsts = new long[MOST];
        private final long[] seconds = new long[MOST];
        private final int[] sizes = new int[MOST];
        /** A heap's number and 1, or 0, where the views' hash sends them or behind that. */
        private final int[] slots = new int[2 * MOST];
        private int slotMask;
        int many;
        int greatest;

        /** Twice as many slots as there can be heaps, so that there is always a free one. */
        void begin(int secrets) {
            int used = Math.min(2 * secrets, slots.length);
            for (int i = 0; i < used; i++) slots[i] = 0;
            slotMask = used - 1;
            many = 0;
            greatest = 0;
        }

        void put(long first, long second) {
            long hash = (first ^ first >>> 32) * SPREAD_FIRST + (second ^ second >>> 32) * SPREAD_SECOND;
            int at = (int) (hash >>> 40) & slotMask;
            for (int k = 0; k <= slotMask; k++) {
                int heap = slots[at] - 1;
                if (heap < 0) heap = open(at, first, second);
                if (firsts[heap] == first && seconds[heap] == second) {
                    grow(heap);
                    return;
                }
                at = at + 1 & slotMask;
            }
        }

        private int open(int at, long first, long second) {
            int heap = Math.min(many, MOST - 1);
            many = heap + 1;
            slots[at] = many;
            firsts[heap] = first;
            seconds[heap] = second;
            sizes[heap] = 0;
            return heap;
        }

        private void grow(int heap) {
            sizes[heap]++;
            greatest = Math.max(greatest, sizes[heap]);
        }
    }

    /**
     * What watchers see of a program's runs. Only the cells that occur in the program are tried:
     * another secret cell makes each heap four times as great, another open one changes no heap.
     */
    private static final class Watch {
        /** A view is one long: 1 and the numbers seen on the tape, then numbers behind the run, then steps. */
        private static final int CELLS_AT = 41, STEPS_AT = 53;
        private static final long TAPE_BITS = (1L << CELLS_AT) - 1, STEP_BITS = 511L << STEPS_AT;
        private static final int KEY_BITS = 12;
        private static final int SETS = 1 << STOP_LIMIT;

        private final Machine machine = new Machine();
        private final HeapTable table = new HeapTable();
        /** Per watcher and numbers ahead of the run what was seen at most, as long as 'known' has the stamp. */
        private final long[] views = new long[WATCHERS << KEY_BITS];
        private final int[] known = new int[1 << KEY_BITS];
        private int stamp = 1;
        /** Pairs that told a program with some outs stopped: they are tried first on the next set. */
        private final int[] telltaleOpens = new int[SETS];
        private final int[] telltaleSecrets = new int[SETS];
        private int telltales;

        private Program program = new Program();
        private int watcher;
        private long lens;
        private int openCells;
        private int secretCells;
        private int foundSecrets;
        int pairOpen;
        int pairSecret;
        int mostHeaps;

        /** The program is another one now. */
        void forget() {
            stamp++;
        }

        void aim(Program p, int w, int cells, int time) {
            program = p;
            watcher = w & WATCHERS - 1;
            openCells = cells;
            secretCells = ALL_CELLS & ~cells;
            lens = lensOf(cells, time == 1 ? STEP_BITS : 0);
        }

        int countHeaps(int open) {
            int tried = secretCells & program.used;
            int secrets = numbersOf(tried);
            table.begin(secrets);
            int secret = 0;
            for (int k = 0; k < secrets; k++) {
                table.put(look(open | secret, watcher, 0) & lens, 0);
                secret = following(secret, tried);
            }
            return table.many;
        }

        int greatestHeap() {
            return table.greatest * untriedSecrets();
        }

        /** The least secret of the heap. */
        int findHeap(int open, int ofSecret) {
            int tried = secretCells & program.used;
            int secrets = numbersOf(tried);
            long due = look(open | ofSecret, watcher, 0) & lens;
            int least = -1;
            int secret = 0;
            foundSecrets = 0;
            for (int k = 0; k < secrets; k++) {
                if ((look(open | secret, watcher, 0) & lens) == due) {
                    if (least < 0) least = secret;
                    foundSecrets++;
                }
                secret = following(secret, tried);
            }
            return least;
        }

        int foundSize() {
            return foundSecrets * untriedSecrets();
        }

        /** Whether two secrets are told apart; the first two are kept. */
        boolean findPair(int without) {
            int triedOpen = openCells & program.used;
            int tried = secretCells & program.used;
            int opens = numbersOf(triedOpen);
            int secrets = numbersOf(tried);
            if (secrets < 2) return false;
            pairOpen = 0;
            for (int k = 0; k < opens; k++) {
                long due = look(pairOpen, watcher, without) & lens;
                pairSecret = 0;
                for (int m = 1; m < secrets; m++) {
                    pairSecret = following(pairSecret, tried);
                    if ((look(pairOpen | pairSecret, watcher, without) & lens) != due) return true;
                }
                pairOpen = following(pairOpen, triedOpen);
            }
            return false;
        }

        /** Where every secret tried has a heap of its own, no later open number tells more. */
        int tellsMost() {
            int triedOpen = openCells & program.used;
            int opens = numbersOf(triedOpen);
            int secrets = numbersOf(secretCells & program.used);
            int open = 0;
            int best = 0;
            mostHeaps = 0;
            for (int k = 0; k < opens && mostHeaps < secrets; k++) {
                int many = countHeaps(open);
                if (many > mostHeaps) {
                    mostHeaps = many;
                    best = open;
                }
                open = following(open, triedOpen);
            }
            return best;
        }

        int countTogether(int open, int other) {
            int tried = secretCells & program.used;
            int secrets = numbersOf(tried);
            table.begin(secrets);
            int secret = 0;
            for (int k = 0; k < secrets; k++) {
                table.put(look(open | secret, watcher, 0) & lens, look(other | secret, watcher, 0) & lens);
                secret = following(secret, tried);
            }
            return table.many;
        }

        /** What either sees ahead of a run parts the secrets first; what is in no view is left to the heaps. */
        int countBoth(int open, int cells1, int cells2) {
            int shown = (cells1 | cells2) & secretCells;
            int triedShown = shown & program.used;
            int showns = numbersOf(triedShown);
            int number = 0;
            int many = 0;
            for (int k = 0; k < showns; k++) {
                many += countUnshown(open | number, cells1, cells2);
                number = following(number, triedShown);
            }
            return many * numbersOf(shown & ~program.used);
        }

        private int countUnshown(int told, int cells1, int cells2) {
            int tried = secretCells & program.used & ~(cells1 | cells2);
            int secrets = numbersOf(tried);
            long lens1 = lensOf(cells1, lens & STEP_BITS);
            long lens2 = lensOf(cells2, lens & STEP_BITS);
            table.begin(secrets);
            int secret = 0;
            for (int k = 0; k < secrets; k++) {
                table.put(look(told | secret, 1, 0) & lens1, look(told | secret, 2, 0) & lens2);
                secret = following(secret, tried);
            }
            return table.many;
        }

        /** The least set of fewest outs, or -1. All sets are tried: a stopped out leaves steps to others. */
        int fewestStopped() {
            int outs = Math.min(program.outs, STOP_LIMIT);
            telltales = 0;
            for (int size = 0; size <= outs; size++) {
                for (int set = 0; set < 1 << outs; set++) {
                    if (Integer.bitCount(set) == size && isSafeWithout(set)) return set;
                }
            }
            return -1;
        }

        private boolean isSafeWithout(int set) {
            for (int k = 0; k < telltales && k < SETS; k++) {
                int open = telltaleOpens[k];
                long due = look(open, watcher, set) & lens;
                if ((look(open | telltaleSecrets[k], watcher, set) & lens) != due) return false;
            }
            if (!findPair(set)) return true;
            if (telltales < SETS) {
                telltaleOpens[telltales] = pairOpen;
                telltaleSecrets[telltales] = pairSecret;
                telltales++;
            }
            return false;
        }

        private int untriedSecrets() {
            return numbersOf(secretCells & ~program.used);
        }

        private static long lensOf(int cells, long steps) {
            return TAPE_BITS | (long) cells << CELLS_AT | steps;
        }

        /** All that w could see, with the outs of a set passed by; the caller lays a lens on it. */
        private long look(int from, int w, int without) {
            int key = from & program.used & ALL_CELLS;
            if (without != 0) {
                machine.execute(program, key, without);
                return viewOf(w);
            }
            if (known[key] != stamp) {
                machine.execute(program, key, 0);
                for (int each = 0; each < WATCHERS; each++) views[each << KEY_BITS | key] = viewOf(each);
                known[key] = stamp;
            }
            return views[(w & WATCHERS - 1) << KEY_BITS | key];
        }

        private long viewOf(int w) {
            long seen = 1;
            int kept = machine.kept();
            for (int i = 0; i < kept; i++) {
                if (isWithin(machine.tapeLevels[i], w)) seen = seen << 2 | machine.tapeNumbers[i];
            }
            return seen | (long) machine.numbers << CELLS_AT | (long) machine.steps << STEPS_AT;
        }
    }

    /** The rules of flow. */
    private static final class Flow {
        /** More rounds than bits that can be raised. */
        private static final int ROUNDS = 2 * CELLS + 1;

        final int[] held = new int[STATEMENT_LIMIT];
        final int[] sums = new int[STATEMENT_LIMIT];
        private final int[] lifted = new int[CELLS];

        /** A statement stands behind the one that it is under, so one way through is enough. */
        void measure(Program p, int[] levels) {
            for (int i = 0; i < p.size; i++) {
                Statement s = p.statements[i];
                sums[i] = levelOf(s.cells, levels);
                held[i] = s.parent < 0 || s.parent >= i ? 0 : held[s.parent] | sums[s.parent];
            }
        }

        boolean leaks(Program p, int[] levels, int i) {
            Statement s = p.statements[i];
            if (s.kind == Statement.OUT) return !isWithin(held[i] | sums[i], s.target);
            return s.kind == Statement.ASSIGN && !isWithin(held[i] | sums[i], levels[s.target]);
        }

        int countLeaks(Program p, int[] levels) {
            int many = 0;
            for (int i = 0; i < p.size; i++) {
                if (leaks(p, levels, i)) many++;
            }
            return many;
        }

        int firstLeak(Program p, int[] levels) {
            for (int i = 0; i < p.size; i++) {
                if (leaks(p, levels, i)) return i;
            }
            return NONE;
        }

        int raise(Program p, int[] levels, int cell) {
            for (int c = 0; c < CELLS; c++) lifted[c] = levels[c];
            boolean changed = true;
            for (int round = 0; round < ROUNDS && changed; round++) {
                measure(p, lifted);
                changed = raiseLeaking(p);
            }
            return lifted[cell];
        }

        private boolean raiseLeaking(Program p) {
            boolean changed = false;
            for (int i = 0; i < p.size; i++) {
                Statement s = p.statements[i];
                if (s.kind == Statement.ASSIGN && leaks(p, lifted, i)) {
                    lifted[s.target] |= held[i] | sums[i];
                    changed = true;
                }
            }
            return changed;
        }

        private static int levelOf(int cells, int[] levels) {
            int level = 0;
            for (int c = 0; c < CELLS; c++) {
                if ((cells >>> (2 * c) & 1) != 0) level |= levels[c];
            }
            return level;
        }
    }
}
