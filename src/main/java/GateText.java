import java.util.Arrays;
import java.util.NoSuchElementException;

/**
 * Circuits of AND gates and inverters as texts of two kinds, decimal (aag) and by bytes (aig):
 * read, with the first error and its place; worked, measured, folded; written anew.
 */
public final class GateText {
    private static final int MOST_INPUTS = 14;
    private static final int MOST_GATES = 300;
    private static final int MOST_OUTPUTS = 16;
    private static final int MOST_VARIABLE = 1000;
    private static final int MOST_NODES = 1 + MOST_INPUTS + MOST_GATES;

    private static final int TAPE_BYTES = 8192;
    // The longest text that can be written has 3722 bytes: aag with 14 inputs, 16 outputs, 300 gates.
    private static final int OUT_BYTES = 4096;
    private static final int WORD_BYTES = 8;

    private static final int LINE_END = 10;
    private static final int BLANK = 32;
    private static final int DIGIT_0 = 48;
    private static final int DIGIT_9 = 57;
    private static final int LETTER_A = 97;
    private static final int LETTER_C = 99;
    private static final int LETTER_G = 103;
    private static final int LETTER_I = 105;

    private static final int LETTERS_BYTES = 4;
    private static final int FIRST_LINE_NUMBERS = 5;
    private static final int GATE_LINE_NUMBERS = 3;
    private static final int MOST_DIGITS = 9;
    private static final int GREATEST_UNIT = 100000000;
    private static final int STEP_BASE = 128;

    private static final int BAD_LETTERS = 1;
    private static final int BAD_FIRST_LINE = 2;
    private static final int BAD_LATCHES = 3;
    private static final int BAD_SIZES = 4;
    private static final int BAD_FORM = 5;
    private static final int BAD_LITERAL = 6;
    private static final int BAD_USE = 7;
    private static final int BAD_LOOP = 8;

    private final Reader reader;
    private final Settler settler;
    private final Walker walker;
    private final Writer writer;
    private Circuit now;
    // A text is read into this one, so that an error leaves the circuit as it was.
    private Circuit spare;

    public GateText() {
        reader = new Reader();
        settler = new Settler();
        walker = new Walker();
        writer = new Writer();
        now = new Circuit();
        spare = new Circuit();
    }

    public int feed(int n, long v) throws IllegalArgumentException, IllegalStateException {
        if (n < 1 || n > WORD_BYTES) {
            throw new IllegalArgumentException("n is not 1 .. 8");
        }
        if (reader.tape.size > TAPE_BYTES - n) {
            throw new IllegalStateException("the tape would have more than 8192 bytes");
        }
        for (int i = 0; i < n; i++) {
            reader.tape.add((int) (v >>> (i * 8)) & 255);
        }
        return reader.tape.size;
    }

    public int load() {
        boolean good = reader.readInto(spare) && usesStand(spare) && gatesSettle(spare);
        reader.tape.clear();
        if (good) {
            spare.foldAll();
            Circuit before = now;
            now = spare;
            spare = before;
        }
        return reader.error;
    }

    public int value(int literal, int x) throws IllegalArgumentException {
        int inner = now.nodeLiteral(literal);
        if (inner < 0) {
            throw new IllegalArgumentException("the literal's variable stands for nothing");
        }
        if (!now.takes(x)) {
            throw new IllegalArgumentException("x is not 0 .. 2^I - 1");
        }
        walker.work(now, x);
        return walker.worked(inner);
    }

    public int outputs(int x) throws IllegalArgumentException {
        if (!now.takes(x)) {
            throw new IllegalArgumentException("x is not 0 .. 2^I - 1");
        }
        walker.work(now, x);
        int all = 0;
        for (int o = 0; o < now.outputCount; o++) {
            all |= walker.worked(now.nodeLiteral(pick(now.outputs, o))) << o;
        }
        return all;
    }

    public int literal(int what, int k) throws NoSuchElementException {
        if (k < 0 || k >= now.countOf(what)) {
            throw new NoSuchElementException("there is no such literal");
        }
        return now.textLiteral(what, k);
    }

    public int depth(int literal) throws IllegalArgumentException {
        int inner = now.nodeLiteral(literal);
        if (inner < 0) {
            throw new IllegalArgumentException("the literal's variable stands for nothing");
        }
        return pick(now.depths, inner >> 1);
    }

    public int cone(int literal) throws IllegalArgumentException {
        int inner = now.nodeLiteral(literal);
        if (inner < 0) {
            throw new IllegalArgumentException("the literal's variable stands for nothing");
        }
        return walker.markCone(now, inner);
    }

    public int folded() {
        return walker.markOutputs(now, true);
    }

    public int alike(int literal, int other) throws IllegalArgumentException {
        int inner = now.nodeLiteral(literal);
        int otherInner = now.nodeLiteral(other);
        if (inner < 0 || otherInner < 0) {
            throw new IllegalArgumentException("a literal's variable stands for nothing");
        }
        int difference = now.foldOf(inner) ^ now.foldOf(otherInner);
        if (difference == 0) {
            return 1;
        }
        return difference == 1 ? -1 : 0;
    }

    public int write(boolean binary) {
        int gates = walker.markOutputs(now, false);
        walker.numberMarked(now);
        writer.compose(now, walker, gates, binary);
        return writer.text.size;
    }

    public long out(int k) throws NoSuchElementException {
        if (k < 0 || k >= writer.text.size) {
            throw new NoSuchElementException("OUT has no such byte");
        }
        long eight = 0;
        for (int i = 0; i < WORD_BYTES; i++) {
            long one = Math.max(0, writer.text.byteAt(k + i));
            eight |= one << (i * 8);
        }
        return eight;
    }

    public int look(int what) throws IllegalArgumentException {
        switch (what) {
            case 0:
                return now.inputCount;
            case 1:
                return now.gateCount;
            case 2:
                return now.outputCount;
            case 3:
                return now.top;
            case 4:
                return reader.tape.size;
            case 5:
                return writer.text.size;
            case 6:
                return reader.error;
            case 7:
                return reader.place;
            case 8:
                return walker.markOutputs(now, false);
            default:
                throw new IllegalArgumentException("what is not 0 .. 8");
        }
    }

    private boolean usesStand(Circuit circuit) {
        int missing = circuit.leastMissing();
        return missing == 0 || reader.fail(BAD_USE, missing);
    }

    private boolean gatesSettle(Circuit circuit) {
        return settler.settle(circuit) || reader.fail(BAD_LOOP, settler.leastLooped(circuit));
    }

    // Every row is read and changed through these two, so that no index goes unlooked at.
    private static int pick(int[] row, int k) {
        return k >= 0 && k < row.length ? row[k] : 0;
    }

    private static void store(int[] row, int k, int number) {
        if (k >= 0 && k < row.length) {
            row[k] = number;
        }
    }

    /** A row of bytes, eight to a long: what is kept is counted by elements. */
    private static final class ByteRow {
        int size;
        private final long[] words;

        ByteRow(int bytes) {
            words = new long[Math.max(0, bytes) / WORD_BYTES];
        }

        void clear() {
            size = 0;
        }

        void add(int one) {
            int word = size / WORD_BYTES;
            if (word >= 0 && word < words.length) {
                int shift = size % WORD_BYTES * 8;
                words[word] = words[word] & ~(255L << shift) | (one & 255L) << shift;
                size++;
            }
        }

        /** Byte k, or -1 where there is none. */
        int byteAt(int k) {
            int word = k / WORD_BYTES;
            if (k < 0 || k >= size || word >= words.length) {
                return -1;
            }
            return (int) (words[word] >>> (k % WORD_BYTES * 8)) & 255;
        }
    }

    /**
     * A circuit by its text's literals, and by NODES: these number what the variables stand for
     * without gaps, 0 first, then the inputs, then the gates by depth and variable. So a gate's
     * two literals always lie before it, and one walk along the nodes works a circuit.
     */
    private static final class Circuit {
        // A gate that has no node yet: this and its number in the text, above every node.
        private static final int UNSETTLED = MOST_NODES;

        int inputCount;
        int gateCount;
        int outputCount;
        int top;
        final int[] inputs = new int[MOST_INPUTS];
        final int[] outputs = new int[MOST_OUTPUTS];
        final int[] gates = new int[MOST_GATES];
        final int[] greater = new int[MOST_GATES];
        final int[] lesser = new int[MOST_GATES];
        final int[] depths = new int[MOST_NODES];
        // A variable's node; 0 for variable 0, and for each other that stands for nothing.
        private final int[] nodes = new int[MOST_VARIABLE + 1];
        // By gates' nodes: the greater and the lesser literal, of nodes.
        final int[] high = new int[MOST_NODES];
        final int[] low = new int[MOST_NODES];
        private final int[] folds = new int[MOST_NODES];

        void begin(int variables, int inputsDue, int outputsDue, int gatesDue) {
            top = variables;
            inputCount = inputsDue;
            outputCount = outputsDue;
            gateCount = gatesDue;
            Arrays.fill(nodes, 0);
            Arrays.fill(depths, 0);
        }

        void setInput(int k, int literal) {
            store(inputs, k, literal);
            store(nodes, literal >> 1, k + 1);
        }

        void setGate(int k, int own, int one, int other) {
            store(gates, k, own);
            store(greater, k, Math.max(one, other));
            store(lesser, k, Math.min(one, other));
            store(nodes, own >> 1, UNSETTLED + k);
        }

        boolean isLiteral(int literal) {
            return literal >= 0 && literal <= 2 * top + 1;
        }

        /** Whether an input or a gate may have this literal as its own. */
        boolean canTake(int literal) {
            return isLiteral(literal) && literal > 1 && (literal & 1) == 0 && pick(nodes, literal >> 1) == 0;
        }

        boolean takes(int x) {
            return x >= 0 && x < 1 << inputCount;
        }

        int nodeCount() {
            return 1 + inputCount + gateCount;
        }

        /** The same literal by its node, or -1 where its variable stands for nothing. */
        int nodeLiteral(int literal) {
            int node = pick(nodes, literal >> 1);
            if (!isLiteral(literal) || node == 0 && literal > 1) {
                return -1;
            }
            return 2 * node + (literal & 1);
        }

        private boolean isMissing(int variable) {
            return variable != 0 && pick(nodes, variable) == 0;
        }

        /** The least variable that is used and stands for nothing, or 0. */
        int leastMissing() {
            int least = 0;
            for (int o = 0; o < outputCount; o++) {
                least = lesserMissing(least, pick(outputs, o));
            }
            for (int k = 0; k < gateCount; k++) {
                least = lesserMissing(least, pick(greater, k));
                least = lesserMissing(least, pick(lesser, k));
            }
            return least;
        }

        private int lesserMissing(int least, int literal) {
            int variable = literal >> 1;
            return isMissing(variable) && (least == 0 || variable < least) ? variable : least;
        }

        /** The gate, by its number in the text, that has this variable and no node yet, or -1. */
        int unsettledGate(int variable) {
            return Math.max(-1, pick(nodes, variable) - UNSETTLED);
        }

        boolean standsBefore(int literal, int node) {
            return pick(nodes, literal >> 1) < node;
        }

        void settleGate(int k, int node, int depth) {
            int one = nodeLiteral(pick(greater, k));
            int other = nodeLiteral(pick(lesser, k));
            store(high, node, Math.max(one, other));
            store(low, node, Math.min(one, other));
            store(depths, node, depth);
            store(nodes, pick(gates, k) >> 1, node);
        }

        void foldAll() {
            for (int n = 0; n <= inputCount; n++) {
                store(folds, n, 2 * n);
            }
            for (int n = inputCount + 1; n < nodeCount(); n++) {
                store(folds, n, foldedAnd(n));
            }
        }

        int foldOf(int inner) {
            return pick(folds, inner >> 1) ^ (inner & 1);
        }

        int foldIf(boolean wanted, int inner) {
            return wanted ? foldOf(inner) : inner;
        }

        private int foldedAnd(int node) {
            int one = foldOf(pick(high, node));
            int other = foldOf(pick(low, node));
            int more = Math.max(one, other);
            int less = Math.min(one, other);
            if (less == 0 || (more ^ less) == 1) {
                return 0;
            }
            if (less == 1 || more == less) {
                return more;
            }
            for (int n = inputCount + 1; n < node; n++) {
                if (isAndOf(n, more, less)) {
                    return 2 * n;
                }
            }
            return 2 * node;
        }

        /** Whether a node has stayed an AND of its own, and is that of these two. */
        private boolean isAndOf(int node, int more, int less) {
            if (pick(folds, node) != 2 * node) {
                return false;
            }
            int one = foldOf(pick(high, node));
            int other = foldOf(pick(low, node));
            return one == more && other == less || one == less && other == more;
        }

        /** How many literals of a kind there are: none of a kind that is none. */
        int countOf(int what) {
            switch (what) {
                case 0:
                    return inputCount;
                case 1:
                case 3:
                case 4:
                    return gateCount;
                case 2:
                    return outputCount;
                default:
                    return 0;
            }
        }

        int textLiteral(int what, int k) {
            switch (what) {
                case 0:
                    return pick(inputs, k);
                case 1:
                    return pick(gates, k);
                case 2:
                    return pick(outputs, k);
                case 3:
                    return pick(greater, k);
                default:
                    return pick(lesser, k);
            }
        }
    }

    /** The tape, and how it is read: errors 1 to 6 are met here, 7 and 8 are only told here. */
    private static final class Reader {
        final ByteRow tape = new ByteRow(TAPE_BYTES);
        int error;
        int place;
        // The latest line's numbers, and where each begins.
        private final int[] numbers = new int[FIRST_LINE_NUMBERS];
        private final int[] starts = new int[FIRST_LINE_NUMBERS];
        private int step;
        private int next;

        boolean readInto(Circuit circuit) {
            error = 0;
            place = 0;
            next = LETTERS_BYTES;
            int letter = tape.byteAt(1);
            boolean binary = letter == LETTER_I;
            if (tape.byteAt(0) != LETTER_A || !binary && letter != LETTER_A
                    || tape.byteAt(2) != LETTER_G || tape.byteAt(3) != BLANK) {
                return fail(BAD_LETTERS, 0);
            }
            return readFirstLine(circuit, binary)
                    && (binary ? readBinary(circuit) : readDecimal(circuit))
                    && readEnd();
        }

        /** Keeps an error; false, as what was read is then none. */
        boolean fail(int which, int where) {
            error = which;
            place = where;
            return false;
        }

        private boolean readFirstLine(Circuit circuit, boolean binary) {
            if (!readLine(FIRST_LINE_NUMBERS, BAD_FIRST_LINE)) {
                return false;
            }
            int variables = pick(numbers, 0);
            int inputs = pick(numbers, 1);
            int outputs = pick(numbers, 3);
            int gates = pick(numbers, 4);
            if (pick(numbers, 2) != 0) {
                return fail(BAD_LATCHES, 0);
            }
            if (variables > MOST_VARIABLE || inputs > MOST_INPUTS || outputs > MOST_OUTPUTS || gates > MOST_GATES) {
                return fail(BAD_SIZES, 0);
            }
            if (variables < inputs + gates || binary && variables != inputs + gates) {
                return fail(BAD_SIZES, 0);
            }
            circuit.begin(variables, inputs, outputs, gates);
            return true;
        }

        private boolean readDecimal(Circuit circuit) {
            for (int k = 0; k < circuit.inputCount; k++) {
                if (!readLine(1, BAD_FORM) || !ownFits(circuit, 0)) {
                    return false;
                }
                circuit.setInput(k, pick(numbers, 0));
            }
            if (!readOutputs(circuit)) {
                return false;
            }
            for (int k = 0; k < circuit.gateCount; k++) {
                if (!readLine(GATE_LINE_NUMBERS, BAD_FORM)
                        || !ownFits(circuit, 0) || !usedFits(circuit, 1) || !usedFits(circuit, 2)) {
                    return false;
                }
                circuit.setGate(k, pick(numbers, 0), pick(numbers, 1), pick(numbers, 2));
            }
            return true;
        }

        private boolean readBinary(Circuit circuit) {
            for (int k = 0; k < circuit.inputCount; k++) {
                circuit.setInput(k, 2 * (k + 1));
            }
            if (!readOutputs(circuit)) {
                return false;
            }
            for (int k = 0; k < circuit.gateCount; k++) {
                if (!readGateSteps(circuit, k)) {
                    return false;
                }
            }
            return true;
        }

        private boolean readOutputs(Circuit circuit) {
            for (int o = 0; o < circuit.outputCount; o++) {
                if (!readLine(1, BAD_FORM) || !usedFits(circuit, 0)) {
                    return false;
                }
                store(circuit.outputs, o, pick(numbers, 0));
            }
            return true;
        }

        private boolean ownFits(Circuit circuit, int i) {
            return circuit.canTake(pick(numbers, i)) || fail(BAD_LITERAL, pick(starts, i));
        }

        private boolean usedFits(Circuit circuit, int i) {
            return circuit.isLiteral(pick(numbers, i)) || fail(BAD_LITERAL, pick(starts, i));
        }

        private boolean readGateSteps(Circuit circuit, int k) {
            int own = 2 * (circuit.inputCount + 1 + k);
            int start = next;
            if (!readStep()) {
                return false;
            }
            int greater = own - step;
            if (step == 0 || greater < 0) {
                return fail(BAD_LITERAL, start);
            }
            start = next;
            if (!readStep()) {
                return false;
            }
            if (step > greater) {
                return fail(BAD_LITERAL, start);
            }
            circuit.setGate(k, own, greater, greater - step);
            return true;
        }

        private boolean readStep() {
            int first = tape.byteAt(next);
            if (first < 0) {
                return fail(BAD_FORM, next);
            }
            next++;
            step = first;
            if (first < STEP_BASE) {
                return true;
            }
            int second = tape.byteAt(next);
            if (second < 1 || second >= STEP_BASE) {
                return fail(BAD_FORM, next);
            }
            next++;
            step = first - STEP_BASE + STEP_BASE * second;
            return true;
        }

        private boolean readEnd() {
            if (next >= tape.size) {
                return true;
            }
            return readByte(LETTER_C, BAD_FORM) && readByte(LINE_END, BAD_FORM);
        }

        private boolean readLine(int count, int errorOfNone) {
            for (int i = 0; i < count; i++) {
                store(starts, i, next);
                if (!isDigit(tape.byteAt(next))) {
                    return fail(errorOfNone, next);
                }
                store(numbers, i, readDigits());
                if (!readByte(i + 1 < count ? BLANK : LINE_END, errorOfNone)) {
                    return false;
                }
            }
            return true;
        }

        // Stops before a digit that no number goes on with: the byte behind a number then finds it.
        private int readDigits() {
            int most = tape.byteAt(next) == DIGIT_0 ? 1 : MOST_DIGITS;
            int number = 0;
            for (int d = 0; d < most && isDigit(tape.byteAt(next)); d++) {
                number = number * 10 + tape.byteAt(next) - DIGIT_0;
                next++;
            }
            return number;
        }

        private boolean readByte(int due, int errorOfNone) {
            if (tape.byteAt(next) != due) {
                return fail(errorOfNone, next);
            }
            next++;
            return true;
        }

        private static boolean isDigit(int one) {
            return one >= DIGIT_0 && one <= DIGIT_9;
        }
    }

    /** Gives the gates of a circuit their nodes, depth by depth, or finds that one needs itself. */
    private static final class Settler {
        // The gates without a node, by their numbers in the text, in the order of their variables.
        private final int[] waiting = new int[MOST_GATES];
        private int waitingCount;
        private final int[] queue = new int[MOST_GATES];
        private int queued;
        private final int[] reached = new int[MOST_GATES];

        boolean settle(Circuit circuit) {
            lineUp(circuit);
            int node = circuit.inputCount + 1;
            for (int depth = 1; depth <= circuit.gateCount && waitingCount > 0; depth++) {
                int before = waitingCount;
                node = settleDepth(circuit, depth, node);
                if (waitingCount == before) {
                    break;
                }
            }
            return waitingCount == 0;
        }

        private void lineUp(Circuit circuit) {
            waitingCount = 0;
            for (int v = 1; v <= circuit.top; v++) {
                int gate = circuit.unsettledGate(v);
                if (gate >= 0) {
                    store(waiting, waitingCount, gate);
                    waitingCount++;
                }
            }
        }

        // A gate has this depth just when all that it needs got a node before this round.
        private int settleDepth(Circuit circuit, int depth, int firstNode) {
            int node = firstNode;
            int kept = 0;
            for (int i = 0; i < waitingCount; i++) {
                int gate = pick(waiting, i);
                if (circuit.standsBefore(pick(circuit.greater, gate), firstNode)
                        && circuit.standsBefore(pick(circuit.lesser, gate), firstNode)) {
                    circuit.settleGate(gate, node, depth);
                    node++;
                } else {
                    store(waiting, kept, gate);
                    kept++;
                }
            }
            waitingCount = kept;
            return node;
        }

        /** Behind a settle that failed: the least variable of a gate that depends on itself. */
        int leastLooped(Circuit circuit) {
            for (int i = 0; i < waitingCount; i++) {
                int gate = pick(waiting, i);
                if (needsItself(circuit, gate)) {
                    return pick(circuit.gates, gate) >> 1;
                }
            }
            return 0;
        }

        // Not each waiting gate lies on a loop: some only need one that does.
        private boolean needsItself(Circuit circuit, int gate) {
            Arrays.fill(reached, 0);
            queued = 0;
            reachNeeds(circuit, gate);
            for (int i = 0; i < MOST_GATES && i < queued; i++) {
                reachNeeds(circuit, pick(queue, i));
            }
            return pick(reached, gate) == 1;
        }

        private void reachNeeds(Circuit circuit, int gate) {
            reach(circuit.unsettledGate(pick(circuit.greater, gate) >> 1));
            reach(circuit.unsettledGate(pick(circuit.lesser, gate) >> 1));
        }

        private void reach(int gate) {
            if (gate >= 0 && pick(reached, gate) == 0) {
                store(reached, gate, 1);
                store(queue, queued, gate);
                queued++;
            }
        }
    }

    /** Walks along a circuit's nodes: upwards to work it, downwards to mark cones. */
    private static final class Walker {
        private final int[] values = new int[MOST_NODES];
        private final int[] marks = new int[MOST_NODES];
        private final int[] written = new int[MOST_NODES];

        void work(Circuit circuit, int x) {
            store(values, 0, 0);
            for (int k = 0; k < circuit.inputCount; k++) {
                store(values, k + 1, x >> k & 1);
            }
            for (int n = circuit.inputCount + 1; n < circuit.nodeCount(); n++) {
                store(values, n, worked(pick(circuit.high, n)) & worked(pick(circuit.low, n)));
            }
        }

        int worked(int inner) {
            return pick(values, inner >> 1) ^ (inner & 1);
        }

        /** Marks a literal's cone: how many gates it has. */
        int markCone(Circuit circuit, int inner) {
            Arrays.fill(marks, 0);
            mark(inner);
            return markNeeds(circuit, false);
        }

        /** Marks the cones of all outputs, folded or as they are: how many gates they have. */
        int markOutputs(Circuit circuit, boolean folded) {
            Arrays.fill(marks, 0);
            for (int o = 0; o < circuit.outputCount; o++) {
                mark(circuit.foldIf(folded, circuit.nodeLiteral(pick(circuit.outputs, o))));
            }
            return markNeeds(circuit, folded);
        }

        private int markNeeds(Circuit circuit, boolean folded) {
            int gates = 0;
            for (int n = circuit.nodeCount() - 1; n > circuit.inputCount; n--) {
                if (isMarked(n)) {
                    gates++;
                    mark(circuit.foldIf(folded, pick(circuit.high, n)));
                    mark(circuit.foldIf(folded, pick(circuit.low, n)));
                }
            }
            return gates;
        }

        private void mark(int inner) {
            store(marks, inner >> 1, 1);
        }

        boolean isMarked(int node) {
            return pick(marks, node) == 1;
        }

        /** Numbers the marked gates behind the inputs, as variables of the text to be written. */
        void numberMarked(Circuit circuit) {
            int variable = 0;
            for (int n = 0; n < circuit.nodeCount(); n++) {
                if (n <= circuit.inputCount || isMarked(n)) {
                    store(written, n, variable);
                    variable++;
                }
            }
        }

        int writtenLiteral(int inner) {
            return 2 * pick(written, inner >> 1) + (inner & 1);
        }
    }

    /** OUT, and how a circuit whose gates a walker has marked and numbered is put there. */
    private static final class Writer {
        final ByteRow text = new ByteRow(OUT_BYTES);

        void compose(Circuit circuit, Walker walker, int gates, boolean binary) {
            text.clear();
            addFirstLine(circuit, gates, binary);
            if (!binary) {
                for (int k = 0; k < circuit.inputCount; k++) {
                    addNumber(2 * (k + 1), LINE_END);
                }
            }
            for (int o = 0; o < circuit.outputCount; o++) {
                addNumber(walker.writtenLiteral(circuit.nodeLiteral(pick(circuit.outputs, o))), LINE_END);
            }
            for (int n = circuit.inputCount + 1; n < circuit.nodeCount(); n++) {
                if (walker.isMarked(n)) {
                    // Numbering keeps the nodes' order, so the greater literal stays the greater one.
                    addGate(walker.writtenLiteral(2 * n), walker.writtenLiteral(pick(circuit.high, n)),
                            walker.writtenLiteral(pick(circuit.low, n)), binary);
                }
            }
        }

        private void addFirstLine(Circuit circuit, int gates, boolean binary) {
            text.add(LETTER_A);
            text.add(binary ? LETTER_I : LETTER_A);
            text.add(LETTER_G);
            text.add(BLANK);
            addNumber(circuit.inputCount + gates, BLANK);
            addNumber(circuit.inputCount, BLANK);
            addNumber(0, BLANK);
            addNumber(circuit.outputCount, BLANK);
            addNumber(gates, LINE_END);
        }

        private void addGate(int own, int greater, int lesser, boolean binary) {
            if (binary) {
                addStep(own - greater);
                addStep(greater - lesser);
            } else {
                addNumber(own, BLANK);
                addNumber(greater, BLANK);
                addNumber(lesser, LINE_END);
            }
        }

        private void addStep(int step) {
            if (step < STEP_BASE) {
                text.add(step);
            } else {
                text.add(STEP_BASE + step % STEP_BASE);
                text.add(step / STEP_BASE);
            }
        }

        private void addNumber(int number, int behind) {
            for (int unit = GREATEST_UNIT; unit > 0; unit /= 10) {
                if (number >= unit || unit == 1) {
                    text.add(DIGIT_0 + number / unit % 10);
                }
            }
            text.add(behind);
        }
    }
}
