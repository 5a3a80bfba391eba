import java.util.NoSuchElementException;

/** A workbench for dataflow analyses on a control flow graph, with an interpreter and edits that can be undone. */
public final class DataflowLab {
    public static final int NONE = -1;
    public static final int SET = 0;
    public static final int MOVE = 1;
    public static final int CALC = 2;
    public static final int SHOW = 3;
    public static final int PLUS = 0;
    public static final int MINUS = 1;
    public static final int TIMES = 2;

    private static final int MAX_BLOCKS = 12;
    private static final int MAX_INSTRUCTIONS = 40;
    private static final int VARIABLES = 8;
    private static final int ALL_VARIABLES = 255;
    private static final int MAX_CONSTANT = 999;
    private static final int MODULUS = 1000;
    private static final int MAX_TEXT = 700;
    private static final int MAX_OUTPUT = 704;
    private static final int MAX_STEPS = 1000;
    private static final int AUDIT_STEPS = 200;
    private static final int UNDO_DEPTH = 6;
    private static final int SNAPSHOTS = 2;
    private static final int ENTRY = 0;
    private static final int ENTRY_BIT = 1;

    // A point bears the number of the instruction behind it; the points before the exits follow, one a block.
    private static final int POINTS = 52;

    // Every round of a fixpoint but the last changes something, so none needs more than some hundred rounds.
    private static final int MAX_ROUNDS = 100000;

    private static final String FIRST_PROGRAM =
        "block; set a 5; set b 1; set d 7; goto 1; block; calc c a plus b; branch a 2 3; block; calc a a minus b; calc e a plus b; goto 1; block; show c; move f d; stop;";

    private final Program program;
    private final Program draft = new Program();
    private final Parser parser = new Parser();
    private final Writer writer = new Writer();
    private final History history = new History();
    private final Program[] snapshots = new Program[SNAPSHOTS];
    private final Graph theGraph = new Graph();
    private final Reaching theReaching = new Reaching();
    private final Liveness theLiveness = new Liveness();
    private final Available theAvailable = new Available();
    private final Constants theConstants = new Constants();
    private final Machine machine = new Machine();

    public DataflowLab() {
        program = firstProgram();
    }

    // ---- texts

    public int appendText(int fourBytes) throws IllegalStateException {
        if (parser.textLength() + 4 > MAX_TEXT) {
            throw new IllegalStateException("the text buffer is full");
        }
        for (int shift = 24; shift >= 0; shift -= 8) {
            parser.addByte(fourBytes >>> shift & 255);
        }
        return parser.textLength();
    }

    public int truncateText(int length) throws IllegalArgumentException {
        if (length < 0 || length > parser.textLength()) {
            throw new IllegalArgumentException("no such length");
        }
        parser.cutBuffer(length);
        return length;
    }

    public int loadProgram() {
        boolean good = parser.parse(draft);
        parser.clearBuffer();
        if (!good) {
            return NONE;
        }
        replaceProgram(draft);
        return program.blocks;
    }

    public int errorCode() {
        return parser.reportedCode;
    }

    public int errorPosition() {
        return parser.reportedPosition;
    }

    // ---- the graph and the instructions

    public int blockCount() {
        return program.blocks;
    }

    public int instructionCount() {
        return program.instructions;
    }

    public int instructionsIn(int block) throws IndexOutOfBoundsException {
        requireBlock(block);
        return program.sizeOf(block);
    }

    public int blockOf(int instruction) throws IndexOutOfBoundsException {
        requireInstruction(instruction);
        return program.blockAt(instruction);
    }

    public int kindOf(int instruction) throws IndexOutOfBoundsException {
        requireInstruction(instruction);
        return program.kindAt(instruction);
    }

    public int successor(int block, int index) throws IndexOutOfBoundsException, NoSuchElementException {
        requireBlock(block);
        if (index < 0 || index >= program.wayCount(block)) {
            throw new NoSuchElementException("the exit has no such successor");
        }
        return program.wayOf(block, index);
    }

    public int predecessors(int block) throws IndexOutOfBoundsException {
        requireBlock(block);
        return Integer.bitCount(graph().predecessorSet(block));
    }

    public boolean isReachable(int block) throws IndexOutOfBoundsException {
        requireBlock(block);
        return graph().isReached(block);
    }

    public int distanceTo(int block) throws IndexOutOfBoundsException {
        requireBlock(block);
        return graph().distance(block);
    }

    // ---- reaching definitions

    public boolean reaches(int instruction, int block) throws IndexOutOfBoundsException {
        requireInstruction(instruction);
        requireBlock(block);
        return hasBit(reaching().definitionsAt(program.firstPoint(block)), instruction);
    }

    public int reachingDefinitions(int block, int variable)
            throws IndexOutOfBoundsException, IllegalArgumentException {
        requireBlock(block);
        requireVariable(variable);
        return Long.bitCount(reaching().definitionsAt(program.firstPoint(block), variable));
    }

    public boolean isInitialReaching(int block, int variable)
            throws IndexOutOfBoundsException, IllegalArgumentException {
        requireBlock(block);
        requireVariable(variable);
        return hasBit(reaching().initialsAt(program.firstPoint(block)), variable);
    }

    public int usesOf(int instruction) throws IndexOutOfBoundsException {
        requireInstruction(instruction);
        return reaching().countUses(program, instruction);
    }

    public int onlyDefinition(int instruction, int index)
            throws IndexOutOfBoundsException, NoSuchElementException {
        requireInstruction(instruction);
        int variable = program.operandAt(instruction, index);
        if (variable == NONE) {
            throw new NoSuchElementException("the instruction has no such operand");
        }
        return reaching().onlyDefinitionAt(instruction, variable);
    }

    // ---- live variables

    public boolean isLiveIn(int block, int variable) throws IndexOutOfBoundsException, IllegalArgumentException {
        requireBlock(block);
        requireVariable(variable);
        return hasBit(liveness().liveAt(program.firstPoint(block)), variable);
    }

    public boolean isLiveOut(int block, int variable) throws IndexOutOfBoundsException, IllegalArgumentException {
        requireBlock(block);
        requireVariable(variable);
        return hasBit(liveness().liveBehind(program.exitPoint(block)), variable);
    }

    public int liveBefore(int instruction) throws IndexOutOfBoundsException {
        requireInstruction(instruction);
        return Integer.bitCount(liveness().liveAt(instruction));
    }

    public boolean isDead(int instruction) throws IndexOutOfBoundsException {
        requireInstruction(instruction);
        return liveness().isDeadAt(program, instruction);
    }

    public int deadDefinitions() {
        return liveness().countDead(program);
    }

    public int pressure() {
        return liveness().largestSet();
    }

    public boolean interfere(int variable, int other) throws IllegalArgumentException {
        requireVariable(variable);
        requireVariable(other);
        if (variable == other) {
            return false;
        }
        return liveness().clashes(program, variable, other) || liveness().clashes(program, other, variable);
    }

    // ---- available expressions

    public int expressionCount() {
        return available().countNames(program);
    }

    public boolean isRedundant(int instruction) throws IndexOutOfBoundsException {
        requireInstruction(instruction);
        return available().isRedundantAt(program, instruction);
    }

    public int redundantCount() {
        return available().countRedundant(program);
    }

    public int availableAt(int block) throws IndexOutOfBoundsException {
        requireBlock(block);
        return Long.bitCount(available().expressionsAt(program.firstPoint(block)));
    }

    // ---- dominators and loops

    public boolean dominates(int block, int other) throws IndexOutOfBoundsException {
        requireBlock(block);
        requireBlock(other);
        return hasBit(graph().dominatorSet(other), block);
    }

    public int immediateDominator(int block) throws IndexOutOfBoundsException {
        requireBlock(block);
        return graph().closestOf(graph().dominatorSet(block) & ~(1 << block));
    }

    public int commonDominator(int block, int other) throws IndexOutOfBoundsException {
        requireBlock(block);
        requireBlock(other);
        return graph().closestOf(graph().dominatorSet(block) & graph().dominatorSet(other));
    }

    public int backEdges() {
        return graph().countBackEdges();
    }

    public int loopSize(int block) throws IndexOutOfBoundsException {
        requireBlock(block);
        return Integer.bitCount(graph().bodyOf(block));
    }

    public int loopDepth(int block) throws IndexOutOfBoundsException {
        requireBlock(block);
        return graph().countBodiesWith(block);
    }

    // ---- constants and runs

    public int constantAt(int block, int variable) throws IndexOutOfBoundsException, IllegalArgumentException {
        requireBlock(block);
        requireVariable(variable);
        return constants().constantBefore(program.firstPoint(block), variable);
    }

    public int constantOf(int instruction) throws IndexOutOfBoundsException {
        requireInstruction(instruction);
        return constants().constantGiven(instruction);
    }

    public int decidedBranches() {
        return constants().countDecided(program);
    }

    public int runSteps(int limit) throws IllegalArgumentException {
        requireLimit(limit);
        machine.run(program, limit);
        return machine.steps;
    }

    public boolean runEnds(int limit) throws IllegalArgumentException {
        requireLimit(limit);
        machine.run(program, limit);
        return machine.ended;
    }

    public int valueAfter(int steps, int variable) throws IllegalArgumentException {
        requireSteps(steps);
        requireVariable(variable);
        machine.run(program, steps);
        return machine.value(variable);
    }

    public int lastShown(int steps) throws IllegalArgumentException {
        requireSteps(steps);
        machine.run(program, steps);
        return machine.shown;
    }

    public int visits(int block, int steps) throws IndexOutOfBoundsException, IllegalArgumentException {
        requireBlock(block);
        requireSteps(steps);
        machine.run(program, steps);
        return machine.entriesInto(block);
    }

    public int auditDifference() {
        Constants constants = constants();
        Reaching reaching = reaching();
        int differences = 0;
        machine.start(program);
        for (int i = 0; i < AUDIT_STEPS && !machine.ended; i++) {
            differences += machine.contradicts(constants) ? 1 : 0;
            differences += machine.contradicts(reaching) ? 1 : 0;
            machine.step(program);
        }
        return differences;
    }

    public float deadShare() {
        int definitions = program.countDefinitions();
        if (definitions == 0) {
            return 0.0f;
        }
        return (float) liveness().countDead(program) / (float) definitions;
    }

    public double meanLive() {
        if (program.instructions == 0) {
            return 0.0;
        }
        return (double) liveness().sumLive(program) / (double) program.instructions;
    }

    // ---- actions

    public int insertSet(int block, int position, int target, int constant)
            throws IndexOutOfBoundsException, IllegalArgumentException, IllegalStateException {
        requireBlock(block);
        requirePosition(block, position);
        requireVariable(target);
        requireConstant(constant);
        requireRoom();
        return insertWord(block, position, Code.set(target, constant));
    }

    public int insertCalc(int block, int position, int target, int left, int operator, int right)
            throws IndexOutOfBoundsException, IllegalArgumentException, IllegalStateException {
        requireBlock(block);
        requirePosition(block, position);
        requireVariable(target);
        requireVariable(left);
        requireOperator(operator);
        requireVariable(right);
        requireRoom();
        return insertWord(block, position, Code.calc(target, left, operator, right));
    }

    public int removeInstruction(int instruction) throws IndexOutOfBoundsException {
        requireInstruction(instruction);
        history.keep(program);
        program.remove(instruction);
        forgetAnalyses();
        return program.instructions;
    }

    public int setGoto(int block, int next) throws IndexOutOfBoundsException {
        requireBlock(block);
        requireBlock(next);
        history.keep(program);
        program.exitByGoto(block, next);
        forgetAnalyses();
        return graph().countReached();
    }

    public int setBranch(int block, int variable, int first, int second)
            throws IndexOutOfBoundsException, IllegalArgumentException {
        requireBlock(block);
        requireBlock(first);
        requireBlock(second);
        requireVariable(variable);
        history.keep(program);
        program.exitByBranch(block, variable, first, second);
        forgetAnalyses();
        return graph().countReached();
    }

    public int removeDead() {
        int before = program.instructions;
        history.keep(program);
        boolean changed = true;
        for (int round = 0; changed && round <= MAX_INSTRUCTIONS; round++) {
            changed = dropDead(liveness());
            forgetAnalyses();
        }
        return before - program.instructions;
    }

    public int foldConstants() {
        Constants constants = constants();
        history.keep(program);
        int replaced = 0;
        for (int i = 0; i < program.instructions; i++) {
            int kind = program.kindAt(i);
            int constant = constants.constantGiven(i);
            if ((kind == MOVE || kind == CALC) && constant != NONE) {
                program.replace(i, Code.set(program.definedAt(i), constant));
                replaced++;
            }
        }
        forgetAnalyses();
        return replaced;
    }

    // ---- output, undo and snapshots

    public int writeBlock(int block) throws IndexOutOfBoundsException {
        requireBlock(block);
        writer.clear();
        for (int i = program.startOf(block); i < program.endOf(block); i++) {
            writer.writeInstruction(program.word(i));
        }
        writer.writeExit(program, block);
        return writer.length;
    }

    public int outputByte(int index) {
        return writer.byteAt(index);
    }

    public int undo() throws IllegalStateException {
        if (!history.takeBack(program)) {
            throw new IllegalStateException("no action can be undone");
        }
        forgetAnalyses();
        return history.count;
    }

    public void saveSnapshot(int number) throws IllegalArgumentException {
        if (number < 0 || number >= snapshots.length) {
            throw new IllegalArgumentException("no such snapshot number");
        }
        Program snapshot = snapshots[number];
        if (snapshot == null) {
            snapshot = new Program();
            snapshots[number] = snapshot;
        }
        snapshot.copyFrom(program);
    }

    public void restoreSnapshot(int number) throws IllegalArgumentException, IllegalStateException {
        if (number < 0 || number >= snapshots.length) {
            throw new IllegalArgumentException("no such snapshot number");
        }
        Program snapshot = snapshots[number];
        if (snapshot == null) {
            throw new IllegalStateException("there is no such snapshot");
        }
        replaceProgram(snapshot);
    }

    // ---- tests of the arguments

    private void requireBlock(int block) {
        if (block < 0 || block >= program.blocks) {
            throw new IndexOutOfBoundsException("no such block");
        }
    }

    private void requireInstruction(int instruction) {
        if (instruction < 0 || instruction >= program.instructions) {
            throw new IndexOutOfBoundsException("no such instruction");
        }
    }

    private void requirePosition(int block, int position) {
        if (position < 0 || position > program.sizeOf(block)) {
            throw new IllegalArgumentException("no such position in the block");
        }
    }

    private void requireRoom() {
        if (program.isFull()) {
            throw new IllegalStateException("the program has 40 instructions");
        }
    }

    private static void requireVariable(int variable) {
        if (variable < 0 || variable >= VARIABLES) {
            throw new IllegalArgumentException("no such variable");
        }
    }

    private static void requireConstant(int constant) {
        if (constant < 0 || constant > MAX_CONSTANT) {
            throw new IllegalArgumentException("no such constant");
        }
    }

    private static void requireOperator(int operator) {
        if (operator != PLUS && operator != MINUS && operator != TIMES) {
            throw new IllegalArgumentException("no such operator");
        }
    }

    private static void requireLimit(int limit) {
        if (limit < 1 || limit > MAX_STEPS) {
            throw new IllegalArgumentException("no such limit");
        }
    }

    private static void requireSteps(int steps) {
        if (steps < 0 || steps > MAX_STEPS) {
            throw new IllegalArgumentException("no such number of steps");
        }
    }

    // ---- changes of the program

    private static Program firstProgram() {
        Parser reader = new Parser();
        Program first = new Program();
        reader.fillBuffer(FIRST_PROGRAM);
        reader.parse(first);
        return first;
    }

    private int insertWord(int block, int position, int word) {
        int instruction = program.startOf(block) + position;
        history.keep(program);
        program.insert(block, instruction, word);
        forgetAnalyses();
        return instruction;
    }

    private boolean dropDead(Liveness liveness) {
        boolean changed = false;
        // From the last one down, so that the numbers of those still to be looked at stay as analysed.
        for (int i = program.instructions - 1; i >= 0; i--) {
            if (liveness.isDeadAt(program, i)) {
                program.remove(i);
                changed = true;
            }
        }
        return changed;
    }

    private void replaceProgram(Program other) {
        program.copyFrom(other);
        history.clear();
        forgetAnalyses();
    }

    // ---- the analyses of the present program, made when they are first asked for

    private void forgetAnalyses() {
        theGraph.known = false;
        theReaching.known = false;
        theLiveness.known = false;
        theAvailable.known = false;
        theConstants.known = false;
    }

    private Graph graph() {
        if (!theGraph.known) {
            theGraph.analyse(program);
        }
        return theGraph;
    }

    private Reaching reaching() {
        if (!theReaching.known) {
            theReaching.analyse(program);
        }
        return theReaching;
    }

    private Liveness liveness() {
        if (!theLiveness.known) {
            theLiveness.analyse(program);
        }
        return theLiveness;
    }

    private Available available() {
        if (!theAvailable.known) {
            theAvailable.analyse(program, graph());
        }
        return theAvailable;
    }

    private Constants constants() {
        if (!theConstants.known) {
            theConstants.analyse(program, graph());
        }
        return theConstants;
    }

    // ---- rows and sets, safe for every index

    private static int at(int[] row, int index) {
        return index >= 0 && index < row.length ? row[index] : 0;
    }

    private static long at(long[] row, int index) {
        return index >= 0 && index < row.length ? row[index] : 0L;
    }

    private static void put(int[] row, int index, int value) {
        if (index >= 0 && index < row.length) {
            row[index] = value;
        }
    }

    private static void put(long[] row, int index, long value) {
        if (index >= 0 && index < row.length) {
            row[index] = value;
        }
    }

    private static void fill(int[] row, int value) {
        for (int i = 0; i < row.length; i++) {
            row[i] = value;
        }
    }

    private static void fill(long[] row, long value) {
        for (int i = 0; i < row.length; i++) {
            row[i] = value;
        }
    }

    private static void copy(int[] from, int[] to) {
        for (int i = 0; i < from.length && i < to.length; i++) {
            to[i] = from[i];
        }
    }

    private static boolean hasBit(long set, int bit) {
        return (set >>> bit & 1L) != 0L;
    }

    /** Instructions, each packed into one int, so that a program is one row, easily copied and shifted. */
    private static final class Code {
        /** What the kind has no use for is 0. */
        static int pack(int kind, int target, int left, int operator, int right, int constant) {
            return kind | target << 2 | left << 5 | right << 8 | operator << 11 | constant << 13;
        }

        static int set(int target, int constant) {
            return pack(SET, target, 0, 0, 0, constant);
        }

        static int calc(int target, int left, int operator, int right) {
            return pack(CALC, target, left, operator, right, 0);
        }

        static int kind(int word) {
            return word & 3;
        }

        static int target(int word) {
            return word >>> 2 & 7;
        }

        /** The left operand of a CALC, the source of a MOVE or a SHOW. */
        static int left(int word) {
            return word >>> 5 & 7;
        }

        static int right(int word) {
            return word >>> 8 & 7;
        }

        static int operator(int word) {
            return word >>> 11 & 3;
        }

        /** Both operands and the operator of a CALC in one number. */
        static int expression(int word) {
            return word >>> 5 & 255;
        }

        static int constant(int word) {
            return word >>> 13 & 1023;
        }

        static int result(int operator, int left, int right) {
            if (operator == PLUS) {
                return Math.floorMod(left + right, MODULUS);
            }
            return Math.floorMod(operator == MINUS ? left - right : left * right, MODULUS);
        }
    }

    /** The blocks, their instructions and exits, and the points between them. */
    private static final class Program {
        private int blocks;
        private int instructions;
        private final int[] words = new int[MAX_INSTRUCTIONS];
        // Behind the last block's start stands the number of instructions, as the end of that block.
        private final int[] starts = new int[MAX_BLOCKS + 1];
        private final int[] ways = new int[MAX_BLOCKS];
        private final int[] tested = new int[MAX_BLOCKS];
        private final int[] firsts = new int[MAX_BLOCKS];
        private final int[] seconds = new int[MAX_BLOCKS];

        void clear() {
            blocks = 0;
            instructions = 0;
        }

        void copyFrom(Program other) {
            blocks = other.blocks;
            instructions = other.instructions;
            copy(other.words, words);
            copy(other.starts, starts);
            copy(other.ways, ways);
            copy(other.tested, tested);
            copy(other.firsts, firsts);
            copy(other.seconds, seconds);
        }

        boolean isFull() {
            return instructions >= MAX_INSTRUCTIONS;
        }

        int word(int instruction) {
            return at(words, instruction);
        }

        int startOf(int block) {
            return at(starts, block);
        }

        int endOf(int block) {
            return at(starts, block + 1);
        }

        int sizeOf(int block) {
            return at(starts, block + 1) - at(starts, block);
        }

        int wayCount(int block) {
            return at(ways, block);
        }

        int wayOf(int block, int index) {
            return index == 0 ? at(firsts, block) : at(seconds, block);
        }

        int testedBy(int block) {
            return at(tested, block);
        }

        int countDefinitions() {
            int sum = 0;
            for (int i = 0; i < instructions; i++) {
                sum += definedAt(i) == NONE ? 0 : 1;
            }
            return sum;
        }

        void addBlock() {
            put(starts, blocks, instructions);
            blocks++;
            put(starts, blocks, instructions);
        }

        /** Adds an instruction to the last block. */
        void append(int word) {
            put(words, instructions, word);
            instructions++;
            put(starts, blocks, instructions);
        }

        void insert(int block, int instruction, int word) {
            for (int i = instructions; i > instruction; i--) {
                put(words, i, at(words, i - 1));
            }
            put(words, instruction, word);
            instructions++;
            moveStarts(block, 1);
        }

        void remove(int instruction) {
            int block = blockAt(instruction);
            instructions--;
            for (int i = instruction; i < instructions; i++) {
                put(words, i, at(words, i + 1));
            }
            moveStarts(block, -1);
        }

        private void moveStarts(int block, int change) {
            for (int b = block + 1; b <= blocks; b++) {
                put(starts, b, at(starts, b) + change);
            }
        }

        void replace(int instruction, int word) {
            put(words, instruction, word);
        }

        void exitByStop(int block) {
            put(ways, block, 0);
        }

        void exitByGoto(int block, int next) {
            put(ways, block, 1);
            put(firsts, block, next);
        }

        void exitByBranch(int block, int variable, int first, int second) {
            put(ways, block, 2);
            put(tested, block, variable);
            put(firsts, block, first);
            put(seconds, block, second);
        }

        int exitPoint(int block) {
            return MAX_INSTRUCTIONS + block;
        }

        int firstPoint(int block) {
            int start = at(starts, block);
            return start < at(starts, block + 1) ? start : MAX_INSTRUCTIONS + block;
        }

        boolean hasPoint(int point) {
            return point < MAX_INSTRUCTIONS ? point < instructions : point - MAX_INSTRUCTIONS < blocks;
        }

        int blockAt(int point) {
            if (point >= MAX_INSTRUCTIONS) {
                return point - MAX_INSTRUCTIONS;
            }
            int block = 0;
            while (block < blocks && at(starts, block + 1) <= point) {
                block++;
            }
            return block;
        }

        /** The kind of the instruction behind a point; NONE if an exit is there. */
        int kindAt(int point) {
            return point < MAX_INSTRUCTIONS ? Code.kind(at(words, point)) : NONE;
        }

        int nextCount(int point) {
            return point < MAX_INSTRUCTIONS ? 1 : at(ways, point - MAX_INSTRUCTIONS);
        }

        int nextPoint(int point, int index) {
            if (point >= MAX_INSTRUCTIONS) {
                return firstPoint(wayOf(point - MAX_INSTRUCTIONS, index));
            }
            int block = blockAt(point);
            return point + 1 < at(starts, block + 1) ? point + 1 : MAX_INSTRUCTIONS + block;
        }

        /** The variable that the instruction behind a point defines; NONE if it defines none. */
        int definedAt(int point) {
            int kind = kindAt(point);
            return kind == NONE || kind == SHOW ? NONE : Code.target(at(words, point));
        }

        /** The variable that an instruction uses as its first (0) or second (1) one; NONE if there is none. */
        int operandAt(int instruction, int index) {
            int word = at(words, instruction);
            if (index == 0 && Code.kind(word) != SET) {
                return Code.left(word);
            }
            return index == 1 && Code.kind(word) == CALC ? Code.right(word) : NONE;
        }

        /** The set of the variables that the instruction or the exit behind a point uses. */
        int usedAt(int point) {
            if (point >= MAX_INSTRUCTIONS) {
                int block = point - MAX_INSTRUCTIONS;
                return at(ways, block) == 2 ? 1 << at(tested, block) : 0;
            }
            int left = operandAt(point, 0);
            int right = operandAt(point, 1);
            return (left == NONE ? 0 : 1 << left) | (right == NONE ? 0 : 1 << right);
        }
    }

    /** The programs before the most recent actions. */
    private static final class History {
        private final Program[] kept = new Program[UNDO_DEPTH];
        private int next;
        private int count;

        void clear() {
            count = 0;
        }

        void keep(Program program) {
            if (next < 0 || next >= kept.length) {
                next = 0;
            }
            Program slot = kept[next];
            if (slot == null) {
                slot = new Program();
                kept[next] = slot;
            }
            slot.copyFrom(program);
            next = next + 1 < UNDO_DEPTH ? next + 1 : 0;
            count = count < UNDO_DEPTH ? count + 1 : UNDO_DEPTH;
        }

        boolean takeBack(Program program) {
            int last = next > 0 ? next - 1 : UNDO_DEPTH - 1;
            if (count == 0 || last >= kept.length) {
                return false;
            }
            Program slot = kept[last];
            if (slot == null) {
                return false;
            }
            program.copyFrom(slot);
            next = last;
            count--;
            return true;
        }
    }

    /** The text buffer and the parser, which stops at the first wrong token. */
    private static final class Parser {
        private static final int END = 0;
        private static final int WORD = 1;
        private static final int NUMBER = 2;
        private static final int SEMICOLON = 3;
        private static final int WRONG_BYTE = 4;
        private static final int NOT_ALLOWED = 1;
        private static final int TOO_LARGE = 2;
        private static final int TOO_MANY = 3;
        private static final int NO_SUCH_BLOCK = 4;

        private final int[] bytes = new int[MAX_TEXT];
        private int length;
        private int reportedCode;
        private int reportedPosition = NONE;
        // The present token: its kind, its first byte, the byte behind it, and the value of a number.
        private int token;
        private int start;
        private int end;
        private int value;
        private final int[] firstPositions = new int[MAX_BLOCKS];
        private final int[] secondPositions = new int[MAX_BLOCKS];

        int textLength() {
            return length;
        }

        void clearBuffer() {
            length = 0;
        }

        void cutBuffer(int newLength) {
            length = newLength;
        }

        void addByte(int oneByte) {
            put(bytes, length, oneByte);
            length++;
        }

        void fillBuffer(String text) {
            clearBuffer();
            for (int i = 0; i < text.length() && i < MAX_TEXT; i++) {
                addByte(text.charAt(i));
            }
        }

        /** Reads the text into a program; if it has an error, reports that and answers false. */
        boolean parse(Program result) {
            reportedCode = 0;
            reportedPosition = NONE;
            result.clear();
            end = 0;
            readToken();
            boolean inBlock = false;
            // Every turn takes a semicolon or fails, so there are fewer turns than bytes.
            for (int i = 0; i <= MAX_TEXT && reportedCode == 0 && (i == 0 || inBlock || token != END); i++) {
                if (!inBlock) {
                    parseHead(result);
                    inBlock = true;
                } else if (instructionKind() != NONE) {
                    parseInstruction(result);
                } else {
                    parseExit(result, result.blocks - 1);
                    inBlock = false;
                }
                takeSemicolon();
            }
            checkExits(result);
            return reportedCode == 0;
        }

        private void parseHead(Program result) {
            if (!isWord("block")) {
                fail(NOT_ALLOWED, start);
            } else if (result.blocks >= MAX_BLOCKS) {
                fail(TOO_MANY, start);
            } else {
                result.addBlock();
                readToken();
            }
        }

        private void parseInstruction(Program result) {
            if (result.isFull()) {
                fail(TOO_MANY, start);
                return;
            }
            int kind = instructionKind();
            readToken();
            int target = kind == SHOW ? 0 : takeVariable();
            int left = kind == SET ? 0 : takeVariable();
            int operator = kind == CALC ? takeOperator() : 0;
            int right = kind == CALC ? takeVariable() : 0;
            int constant = kind == SET ? takeNumber(MAX_CONSTANT) : 0;
            if (reportedCode == 0) {
                result.append(Code.pack(kind, target, left, operator, right, constant));
            }
        }

        private void parseExit(Program result, int block) {
            if (isWord("stop")) {
                readToken();
                result.exitByStop(block);
            } else if (isWord("goto")) {
                readToken();
                put(firstPositions, block, start);
                result.exitByGoto(block, takeNumber(MAX_BLOCKS - 1));
            } else if (isWord("branch")) {
                readToken();
                int variable = takeVariable();
                put(firstPositions, block, start);
                int first = takeNumber(MAX_BLOCKS - 1);
                put(secondPositions, block, start);
                int second = takeNumber(MAX_BLOCKS - 1);
                result.exitByBranch(block, variable, first, second);
            } else {
                fail(NOT_ALLOWED, start);
            }
        }

        private void checkExits(Program result) {
            for (int b = 0; b < result.blocks; b++) {
                if (result.wayCount(b) > 0 && result.wayOf(b, 0) >= result.blocks) {
                    fail(NO_SUCH_BLOCK, at(firstPositions, b));
                }
                if (result.wayCount(b) > 1 && result.wayOf(b, 1) >= result.blocks) {
                    fail(NO_SUCH_BLOCK, at(secondPositions, b));
                }
            }
        }

        /** Only the first error is reported: what is read behind it does not count. */
        private void fail(int code, int position) {
            if (reportedCode == 0) {
                reportedCode = code;
                reportedPosition = position;
            }
        }

        private int instructionKind() {
            if (isWord("set")) {
                return SET;
            }
            if (isWord("move")) {
                return MOVE;
            }
            if (isWord("calc")) {
                return CALC;
            }
            return isWord("show") ? SHOW : NONE;
        }

        private void takeSemicolon() {
            if (token == SEMICOLON) {
                readToken();
            } else {
                fail(NOT_ALLOWED, start);
            }
        }

        private int takeVariable() {
            int variable = at(bytes, start) - 'a';
            if (token != WORD || end - start != 1 || variable >= VARIABLES) {
                fail(NOT_ALLOWED, start);
                return NONE;
            }
            readToken();
            return variable;
        }

        private int takeOperator() {
            int operator = NONE;
            if (isWord("plus")) {
                operator = PLUS;
            } else if (isWord("minus")) {
                operator = MINUS;
            } else if (isWord("times")) {
                operator = TIMES;
            }
            if (operator == NONE) {
                fail(NOT_ALLOWED, start);
                return NONE;
            }
            readToken();
            return operator;
        }

        private int takeNumber(int largest) {
            if (token != NUMBER || value > largest) {
                fail(token == NUMBER ? TOO_LARGE : NOT_ALLOWED, start);
                return NONE;
            }
            int number = value;
            readToken();
            return number;
        }

        private boolean isWord(String word) {
            if (token != WORD || end - start != word.length()) {
                return false;
            }
            for (int i = 0; i < word.length(); i++) {
                if (at(bytes, start + i) != word.charAt(i)) {
                    return false;
                }
            }
            return true;
        }

        private void readToken() {
            start = end;
            while (start < length && isBlank(at(bytes, start))) {
                start++;
            }
            token = start < length ? tokenKind(at(bytes, start)) : END;
            value = 0;
            end = start;
            while (end < length && tokenKind(at(bytes, end)) == token && (end == start || canGrow(token))) {
                if (token == NUMBER) {
                    // Held down, since a number may have any length and all above the limit are alike.
                    value = Math.min(value * 10 + at(bytes, end) - '0', MAX_CONSTANT + 1);
                }
                end++;
            }
        }

        private static boolean canGrow(int token) {
            return token == WORD || token == NUMBER;
        }

        private static boolean isBlank(int oneByte) {
            return oneByte == ' ' || oneByte == '\n';
        }

        private static int tokenKind(int oneByte) {
            if (oneByte >= 'a' && oneByte <= 'z') {
                return WORD;
            }
            if (oneByte >= '0' && oneByte <= '9') {
                return NUMBER;
            }
            return oneByte == ';' ? SEMICOLON : WRONG_BYTE;
        }
    }

    /** The output buffer and what is written into it. */
    private static final class Writer {
        private final int[] bytes = new int[MAX_OUTPUT];
        private int length;

        void clear() {
            length = 0;
        }

        int byteAt(int index) {
            return index >= 0 && index < length ? at(bytes, index) : NONE;
        }

        void writeInstruction(int word) {
            int kind = Code.kind(word);
            if (kind == SET) {
                writeText("set");
                writeVariable(Code.target(word));
                writeNumber(Code.constant(word));
            } else if (kind == MOVE) {
                writeText("move");
                writeVariable(Code.target(word));
                writeVariable(Code.left(word));
            } else if (kind == CALC) {
                writeText("calc");
                writeVariable(Code.target(word));
                writeVariable(Code.left(word));
                writeOperator(Code.operator(word));
                writeVariable(Code.right(word));
            } else {
                writeText("show");
                writeVariable(Code.left(word));
            }
            writeByte(';');
        }

        void writeExit(Program program, int block) {
            int ways = program.wayCount(block);
            if (ways == 0) {
                writeText("stop");
            } else if (ways == 1) {
                writeText("goto");
                writeNumber(program.wayOf(block, 0));
            } else {
                writeText("branch");
                writeVariable(program.testedBy(block));
                writeNumber(program.wayOf(block, 0));
                writeNumber(program.wayOf(block, 1));
            }
            writeByte(';');
        }

        private void writeByte(int oneByte) {
            put(bytes, length, oneByte);
            length++;
        }

        private void writeText(String text) {
            for (int i = 0; i < text.length(); i++) {
                writeByte(text.charAt(i));
            }
        }

        private void writeOperator(int operator) {
            if (operator == PLUS) {
                writeText(" plus");
            } else {
                writeText(operator == MINUS ? " minus" : " times");
            }
        }

        private void writeVariable(int variable) {
            writeByte(' ');
            writeByte('a' + variable);
        }

        private void writeNumber(int number) {
            writeByte(' ');
            if (number >= 100) {
                writeByte('0' + number / 100);
            }
            if (number >= 10) {
                writeByte('0' + number / 10 % 10);
            }
            writeByte('0' + number % 10);
        }
    }

    /** Edges, distances, dominators and loops; sets of blocks are bits of an int. */
    private static final class Graph {
        private boolean known;
        private int reached;
        private final int[] successors = new int[MAX_BLOCKS];
        private final int[] predecessors = new int[MAX_BLOCKS];
        private final int[] distances = new int[MAX_BLOCKS];
        private final int[] dominators = new int[MAX_BLOCKS];
        private final int[] bodies = new int[MAX_BLOCKS];

        void analyse(Program program) {
            readEdges(program);
            measureDistances();
            findDominators();
            for (int head = 0; head < MAX_BLOCKS; head++) {
                put(bodies, head, findBody(head));
            }
            known = true;
        }

        boolean isReached(int block) {
            return hasBit(reached, block);
        }

        int countReached() {
            return Integer.bitCount(reached);
        }

        int predecessorSet(int block) {
            return at(predecessors, block);
        }

        int distance(int block) {
            return at(distances, block);
        }

        /** The blocks that dominate a block; none if it is not reachable. */
        int dominatorSet(int block) {
            return at(dominators, block);
        }

        int bodyOf(int head) {
            return at(bodies, head);
        }

        /** The block of a chain of dominators that all the others dominate; NONE if the chain is empty. */
        int closestOf(int chain) {
            for (int b = 0; b < MAX_BLOCKS; b++) {
                if (hasBit(chain, b) && at(dominators, b) == chain) {
                    return b;
                }
            }
            return NONE;
        }

        int countBackEdges() {
            int sum = 0;
            for (int head = 0; head < MAX_BLOCKS; head++) {
                sum += Integer.bitCount(origins(head));
            }
            return sum;
        }

        int countBodiesWith(int block) {
            int sum = 0;
            for (int head = 0; head < MAX_BLOCKS; head++) {
                sum += hasBit(at(bodies, head), block) ? 1 : 0;
            }
            return sum;
        }

        private void readEdges(Program program) {
            fill(successors, 0);
            fill(predecessors, 0);
            for (int b = 0; b < program.blocks; b++) {
                for (int i = 0; i < program.wayCount(b); i++) {
                    int next = program.wayOf(b, i);
                    put(successors, b, at(successors, b) | 1 << next);
                    put(predecessors, next, at(predecessors, next) | 1 << b);
                }
            }
        }

        private void measureDistances() {
            fill(distances, NONE);
            put(distances, ENTRY, 0);
            reached = ENTRY_BIT;
            int frontier = ENTRY_BIT;
            for (int distance = 1; distance < MAX_BLOCKS; distance++) {
                frontier = union(successors, frontier) & ~reached;
                reached |= frontier;
                for (int b = 0; b < MAX_BLOCKS; b++) {
                    if (hasBit(frontier, b)) {
                        put(distances, b, distance);
                    }
                }
            }
        }

        private void findDominators() {
            for (int b = 0; b < MAX_BLOCKS; b++) {
                put(dominators, b, isReached(b) ? reached : 0);
            }
            put(dominators, ENTRY, ENTRY_BIT);
            boolean changed = true;
            for (int round = 0; changed && round < MAX_ROUNDS; round++) {
                changed = false;
                for (int b = 0; b < MAX_BLOCKS; b++) {
                    if (isReached(b) && narrowDominators(b)) {
                        changed = true;
                    }
                }
            }
        }

        private boolean narrowDominators(int block) {
            int old = at(dominators, block);
            int common = old;
            int before = at(predecessors, block) & reached;
            for (int b = 0; b < MAX_BLOCKS; b++) {
                if (hasBit(before, b)) {
                    common &= at(dominators, b) | 1 << block;
                }
            }
            put(dominators, block, common);
            return common != old;
        }

        /** The origins of the back edges to a block. */
        private int origins(int head) {
            int found = 0;
            for (int b = 0; b < MAX_BLOCKS; b++) {
                if (hasBit(at(predecessors, head), b) && hasBit(at(dominators, b), head)) {
                    found |= 1 << b;
                }
            }
            return found;
        }

        private int findBody(int head) {
            int added = origins(head);
            if (added == 0) {
                return 0;
            }
            int headBit = 1 << head;
            int body = added | headBit;
            for (int round = 0; round < MAX_BLOCKS; round++) {
                // The head stops the walk backwards: what leads to it is not in the loop by that.
                body |= union(predecessors, body & ~headBit) & reached;
            }
            return body;
        }

        private static int union(int[] sets, int blocks) {
            int sum = 0;
            for (int b = 0; b < MAX_BLOCKS; b++) {
                sum |= hasBit(blocks, b) ? at(sets, b) : 0;
            }
            return sum;
        }
    }

    /** For each point, the definitions (bits of a long) and the initial values (bits of an int) that reach it. */
    private static final class Reaching {
        private boolean known;
        private final long[] definitions = new long[POINTS];
        private final int[] initials = new int[POINTS];
        private final long[] definitionsOf = new long[VARIABLES];

        void analyse(Program program) {
            fill(definitions, 0L);
            fill(initials, 0);
            collectDefinitions(program);
            put(initials, program.firstPoint(ENTRY), ALL_VARIABLES);
            boolean changed = true;
            for (int round = 0; changed && round < MAX_ROUNDS; round++) {
                changed = false;
                for (int point = 0; point < POINTS; point++) {
                    if (program.hasPoint(point) && flow(program, point)) {
                        changed = true;
                    }
                }
            }
            known = true;
        }

        long definitionsAt(int point) {
            return at(definitions, point);
        }

        long definitionsAt(int point, int variable) {
            return at(definitions, point) & at(definitionsOf, variable);
        }

        int initialsAt(int point) {
            return at(initials, point);
        }

        int countUses(Program program, int instruction) {
            int target = program.definedAt(instruction);
            int sum = 0;
            for (int point = 0; target != NONE && point < POINTS; point++) {
                if (hasBit(at(definitions, point), instruction) && hasBit(program.usedAt(point), target)) {
                    sum++;
                }
            }
            return sum;
        }

        int onlyDefinitionAt(int point, int variable) {
            long reaching = definitionsAt(point, variable);
            if (hasBit(at(initials, point), variable) || Long.bitCount(reaching) != 1) {
                return NONE;
            }
            int instruction = 0;
            while (instruction < MAX_INSTRUCTIONS && !hasBit(reaching, instruction)) {
                instruction++;
            }
            return instruction;
        }

        private void collectDefinitions(Program program) {
            fill(definitionsOf, 0L);
            for (int i = 0; i < program.instructions; i++) {
                int target = program.definedAt(i);
                if (target != NONE) {
                    put(definitionsOf, target, at(definitionsOf, target) | 1L << i);
                }
            }
        }

        private boolean flow(Program program, int point) {
            long reaching = at(definitions, point);
            int initial = at(initials, point);
            int target = program.definedAt(point);
            if (target != NONE) {
                reaching = reaching & ~at(definitionsOf, target) | 1L << point;
                initial &= ~(1 << target);
            }
            boolean changed = false;
            for (int i = 0; i < program.nextCount(point); i++) {
                if (join(program.nextPoint(point, i), reaching, initial)) {
                    changed = true;
                }
            }
            return changed;
        }

        private boolean join(int point, long reaching, int initial) {
            long allReaching = at(definitions, point) | reaching;
            int allInitial = at(initials, point) | initial;
            boolean changed = allReaching != at(definitions, point) || allInitial != at(initials, point);
            put(definitions, point, allReaching);
            put(initials, point, allInitial);
            return changed;
        }
    }

    /** For each point, the variables that are live there and behind the instruction or the exit that follows. */
    private static final class Liveness {
        private boolean known;
        private final int[] before = new int[POINTS];
        private final int[] behind = new int[POINTS];

        void analyse(Program program) {
            fill(before, 0);
            fill(behind, 0);
            boolean changed = true;
            for (int round = 0; changed && round < MAX_ROUNDS; round++) {
                changed = false;
                for (int point = POINTS - 1; point >= 0; point--) {
                    if (program.hasPoint(point) && flow(program, point)) {
                        changed = true;
                    }
                }
            }
            known = true;
        }

        int liveAt(int point) {
            return at(before, point);
        }

        int liveBehind(int point) {
            return at(behind, point);
        }

        boolean isDeadAt(Program program, int instruction) {
            int target = program.definedAt(instruction);
            return target != NONE && !hasBit(at(behind, instruction), target);
        }

        int countDead(Program program) {
            int sum = 0;
            for (int i = 0; i < program.instructions; i++) {
                sum += isDeadAt(program, i) ? 1 : 0;
            }
            return sum;
        }

        int sumLive(Program program) {
            int sum = 0;
            for (int i = 0; i < program.instructions; i++) {
                sum += Integer.bitCount(at(before, i));
            }
            return sum;
        }

        int largestSet() {
            int largest = 0;
            for (int point = 0; point < POINTS; point++) {
                largest = Math.max(largest, Integer.bitCount(at(before, point)));
            }
            return largest;
        }

        /** Whether the other variable is live behind a definition of the target that is no move from it. */
        boolean clashes(Program program, int target, int other) {
            for (int i = 0; i < program.instructions; i++) {
                boolean moved = program.kindAt(i) == MOVE && program.operandAt(i, 0) == other;
                if (program.definedAt(i) == target && !moved && hasBit(at(behind, i), other)) {
                    return true;
                }
            }
            return false;
        }

        private boolean flow(Program program, int point) {
            int live = 0;
            for (int i = 0; i < program.nextCount(point); i++) {
                live |= at(before, program.nextPoint(point, i));
            }
            put(behind, point, live);
            int target = program.definedAt(point);
            if (target != NONE) {
                live &= ~(1 << target);
            }
            live |= program.usedAt(point);
            boolean changed = live != at(before, point);
            put(before, point, live);
            return changed;
        }
    }

    /** For each point, the expressions available there; the first CALC with an expression names it. */
    private static final class Available {
        private boolean known;
        private final int[] names = new int[MAX_INSTRUCTIONS];
        private final long[] namesWith = new long[VARIABLES];
        private final long[] before = new long[POINTS];

        void analyse(Program program, Graph graph) {
            nameExpressions(program);
            for (int point = 0; point < POINTS; point++) {
                boolean open = program.hasPoint(point) && graph.isReached(program.blockAt(point));
                put(before, point, open ? -1L : 0L);
            }
            put(before, program.firstPoint(ENTRY), 0L);
            boolean changed = true;
            for (int round = 0; changed && round < MAX_ROUNDS; round++) {
                changed = false;
                for (int point = 0; point < POINTS; point++) {
                    if (program.hasPoint(point) && graph.isReached(program.blockAt(point)) && flow(program, point)) {
                        changed = true;
                    }
                }
            }
            known = true;
        }

        long expressionsAt(int point) {
            return at(before, point);
        }

        int countNames(Program program) {
            int sum = 0;
            for (int i = 0; i < program.instructions; i++) {
                sum += at(names, i) == i ? 1 : 0;
            }
            return sum;
        }

        boolean isRedundantAt(Program program, int instruction) {
            return program.kindAt(instruction) == CALC && hasBit(at(before, instruction), at(names, instruction));
        }

        int countRedundant(Program program) {
            int sum = 0;
            for (int i = 0; i < program.instructions; i++) {
                sum += isRedundantAt(program, i) ? 1 : 0;
            }
            return sum;
        }

        private void nameExpressions(Program program) {
            fill(names, NONE);
            fill(namesWith, 0L);
            for (int i = 0; i < program.instructions; i++) {
                if (program.kindAt(i) == CALC) {
                    int name = firstWith(program, Code.expression(program.word(i)));
                    put(names, i, name);
                    noteOperand(program.operandAt(i, 0), name);
                    noteOperand(program.operandAt(i, 1), name);
                }
            }
        }

        private static int firstWith(Program program, int expression) {
            for (int i = 0; i < program.instructions; i++) {
                if (program.kindAt(i) == CALC && Code.expression(program.word(i)) == expression) {
                    return i;
                }
            }
            return NONE;
        }

        private void noteOperand(int variable, int name) {
            put(namesWith, variable, at(namesWith, variable) | 1L << name);
        }

        private boolean flow(Program program, int point) {
            long present = at(before, point);
            if (program.kindAt(point) == CALC) {
                present |= 1L << at(names, point);
            }
            int target = program.definedAt(point);
            if (target != NONE) {
                present &= ~at(namesWith, target);
            }
            boolean changed = false;
            for (int i = 0; i < program.nextCount(point); i++) {
                int next = program.nextPoint(point, i);
                long common = at(before, next) & present;
                changed = changed || common != at(before, next);
                put(before, next, common);
            }
            return changed;
        }
    }

    /** For each point and variable, its constant, NONE or UNDECIDED; the last stays only where no run comes. */
    private static final class Constants {
        private static final int UNDECIDED = -2;

        private boolean known;
        private final int[] before = new int[POINTS * VARIABLES];
        private final int[] given = new int[MAX_INSTRUCTIONS];

        void analyse(Program program, Graph graph) {
            fill(before, UNDECIDED);
            fill(given, UNDECIDED);
            for (int variable = 0; variable < VARIABLES; variable++) {
                meet(program.firstPoint(ENTRY), variable, 0);
            }
            boolean changed = true;
            for (int round = 0; changed && round < MAX_ROUNDS; round++) {
                changed = false;
                for (int point = 0; point < POINTS; point++) {
                    if (program.hasPoint(point) && graph.isReached(program.blockAt(point)) && flow(program, point)) {
                        changed = true;
                    }
                }
            }
            known = true;
        }

        int constantBefore(int point, int variable) {
            return Math.max(stateBefore(point, variable), NONE);
        }

        int constantGiven(int instruction) {
            return Math.max(at(given, instruction), NONE);
        }

        int countDecided(Program program) {
            int sum = 0;
            for (int b = 0; b < program.blocks; b++) {
                boolean branches = program.wayCount(b) == 2;
                if (branches && constantBefore(program.exitPoint(b), program.testedBy(b)) != NONE) {
                    sum++;
                }
            }
            return sum;
        }

        private int stateBefore(int point, int variable) {
            return at(before, point * VARIABLES + variable);
        }

        private boolean flow(Program program, int point) {
            int target = program.definedAt(point);
            if (target != NONE) {
                put(given, point, stateOfResult(point, program.word(point)));
            }
            boolean changed = false;
            for (int i = 0; i < program.nextCount(point); i++) {
                int next = program.nextPoint(point, i);
                for (int variable = 0; variable < VARIABLES; variable++) {
                    int state = variable == target ? at(given, point) : stateBefore(point, variable);
                    if (meet(next, variable, state)) {
                        changed = true;
                    }
                }
            }
            return changed;
        }

        private int stateOfResult(int point, int word) {
            int kind = Code.kind(word);
            if (kind == SET) {
                return Code.constant(word);
            }
            int left = stateBefore(point, Code.left(word));
            if (kind == MOVE) {
                return left;
            }
            int right = stateBefore(point, Code.right(word));
            if (left >= 0 && right >= 0) {
                return Code.result(Code.operator(word), left, right);
            }
            return left == NONE || right == NONE ? NONE : UNDECIDED;
        }

        private boolean meet(int point, int variable, int state) {
            int old = stateBefore(point, variable);
            if (state == UNDECIDED || state == old || old == NONE) {
                return false;
            }
            put(before, point * VARIABLES + variable, old == UNDECIDED ? state : NONE);
            return true;
        }
    }

    /** The interpreter: one run from the entry, step by step. */
    private static final class Machine {
        private final int[] values = new int[VARIABLES];
        private final int[] entries = new int[MAX_BLOCKS];
        private int defined;
        private int point;
        private int steps;
        private int shown;
        private boolean ended;

        void run(Program program, int limit) {
            start(program);
            for (int i = 0; i < limit && !ended; i++) {
                step(program);
            }
        }

        void start(Program program) {
            fill(values, 0);
            fill(entries, 0);
            put(entries, ENTRY, 1);
            defined = 0;
            point = program.firstPoint(ENTRY);
            steps = 0;
            shown = NONE;
            ended = false;
        }

        void step(Program program) {
            steps++;
            if (program.kindAt(point) == NONE) {
                leaveBlock(program, program.blockAt(point));
            } else {
                execute(program.word(point));
                point = program.nextPoint(point, 0);
            }
        }

        int value(int variable) {
            return at(values, variable);
        }

        int entriesInto(int block) {
            return at(entries, block);
        }

        /** Whether a variable has another value than its constant at the present point. */
        boolean contradicts(Constants constants) {
            for (int variable = 0; variable < VARIABLES; variable++) {
                int constant = constants.constantBefore(point, variable);
                if (constant != NONE && constant != at(values, variable)) {
                    return true;
                }
            }
            return false;
        }

        /** Whether a variable was never defined whose initial value does not reach the present point. */
        boolean contradicts(Reaching reaching) {
            return ((reaching.initialsAt(point) | defined) & ALL_VARIABLES) != ALL_VARIABLES;
        }

        private void leaveBlock(Program program, int block) {
            if (program.wayCount(block) == 0) {
                ended = true;
                return;
            }
            boolean second = program.wayCount(block) == 2 && at(values, program.testedBy(block)) == 0;
            int next = program.wayOf(block, second ? 1 : 0);
            put(entries, next, at(entries, next) + 1);
            point = program.firstPoint(next);
        }

        private void execute(int word) {
            int kind = Code.kind(word);
            int left = at(values, Code.left(word));
            if (kind == SHOW) {
                shown = left;
                return;
            }
            int result = left;
            if (kind == SET) {
                result = Code.constant(word);
            } else if (kind == CALC) {
                result = Code.result(Code.operator(word), left, at(values, Code.right(word)));
            }
            put(values, Code.target(word), result);
            defined |= 1 << Code.target(word);
        }
    }
}
