import java.util.Arrays;

/** A machine for small codes with loops that records hot loops as traces and runs passes in them. */
public final class LoopTracer {
    public static final int LOADING = 0, READY = 1, RUNNING = 2, HALTED = 3, BROKEN = 4;

    private static final int HALT = 0, PUSH = 1, LOAD = 2, STORE = 3, ADD = 4, SUB = 5, MUL = 6, DIV = 7, REM = 8;
    private static final int AND = 9, OR = 10, XOR = 11, SHL = 12, SHR = 13, LESS = 14, SAME = 15, NEG = 16, NOT = 17;
    private static final int DUP = 18, SWAP = 19, POP = 20, GOTO = 21, IF = 22, UNLESS = 23, EMIT = 24, PEEK = 25;
    private static final int POKE = 26;

    /** How many ints each OP takes from the stack, or wants there. */
    private static final int[] TAKES = {
        0, 0, 0, 1, 2, 2, 2, 2, 2, 2, 2, 2, 2, 2, 2, 2, 1, 1, 1, 2, 1, 0, 1, 1, 1, 1, 2};
    /** How many ints each OP puts on the stack in the place of those. */
    private static final int[] GIVES = {
        0, 1, 1, 0, 1, 1, 1, 1, 1, 1, 1, 1, 1, 1, 1, 1, 1, 1, 2, 2, 0, 0, 0, 0, 0, 1, 0};

    private static final int NO_SUCH_OP = 1, NO_SUCH_NUMBER = 2, TAKES_TOO_MUCH = 3, TOO_HIGH = 4;
    private static final int OTHER_HEIGHT = 5, NO_SUCH_WORD = 6;

    private static final int MOST_WORDS = 200, LOCALS = 16, MOST_HEIGHT = 16, PLACES = 32, KEPT_OUTPUT = 200;
    private static final int MOST_STEPS = 48, MOST_TRACES = 16, MOST_BRIDGES = 4, CUTS_TO_BE_COLD = 3;
    private static final int MOST_FUEL = 100000, MOST_THRESHOLD = 1000, USUAL_THRESHOLD = 3, BRIDGE_MARK = 1000;

    private static final int NONE = -1;
    private static final int MOST_ENTRIES = LOCALS + MOST_HEIGHT;
    private static final int MOST_VALUES = MOST_ENTRIES + MOST_STEPS;

    private final int threshold;
    private final Code code;
    private final Machine machine;
    private final Values values;
    private final Traces traceTable;
    private final Recording recorder;
    private final int[] heats = new int[MOST_WORDS];
    private final int[] cuts = new int[MOST_WORDS];
    private long stepsInPasses;
    private long passesBegun;
    private long passesRound;
    private long recordingsBegun;
    private long recordingsCut;

    public LoopTracer(int threshold) {
        this.threshold = threshold >= 1 && threshold <= MOST_THRESHOLD ? threshold : USUAL_THRESHOLD;
        code = new Code();
        machine = new Machine(code);
        values = new Values(code);
        traceTable = new Traces();
        recorder = new Recording();
    }

    public int poke(int address, int word) throws IndexOutOfBoundsException, IllegalStateException {
        if (address < 0 || address > code.count || address >= MOST_WORDS) {
            throw new IndexOutOfBoundsException("no such word");
        }
        if (machine.state != LOADING) {
            throw new IllegalStateException("not loading");
        }
        code.put(address, word);
        return code.count;
    }

    public int verify() {
        int fault = code.findFault();
        if (fault == 0 && machine.state == LOADING) {
            machine.state = READY;
        }
        return fault;
    }

    public int place() {
        return code.faultPlace;
    }

    public int setLocal(int i, int v) throws IndexOutOfBoundsException, IllegalStateException {
        if (i < 0 || i >= LOCALS) {
            throw new IndexOutOfBoundsException("no such local");
        }
        if (machine.state == LOADING || machine.state == RUNNING) {
            throw new IllegalStateException("loading or running");
        }
        int before = machine.locals[i];
        machine.locals[i] = v;
        return before;
    }

    public void start() throws IllegalStateException {
        if (machine.state == LOADING) {
            throw new IllegalStateException("not verified");
        }
        recorder.drop();
        stepsInPasses = 0;
        machine.toBeginning();
        machine.state = RUNNING;
    }

    public int run(int fuel) throws IllegalArgumentException, IllegalStateException {
        if (fuel < 0 || fuel > MOST_FUEL) {
            throw new IllegalArgumentException("no such fuel");
        }
        if (machine.state != RUNNING) {
            throw new IllegalStateException("not running");
        }
        long end = machine.steps + fuel;
        for (int turn = 0; turn < fuel && machine.steps < end && machine.state == RUNNING; turn++) {
            if (cutIsDue()) {
                cutOff();
            }
            // A pass needs fuel for all its steps, so one that was left always leaves fuel for the plain step.
            if (!passComesRound(end)) {
                stepPlainly();
            }
            if (recorder.isBackAt(machine.at)) {
                endRecording();
            }
        }
        return machine.state;
    }

    public int state() {
        return machine.state;
    }

    public int address() {
        return machine.at;
    }

    public int local(int i) throws IndexOutOfBoundsException {
        if (i < 0 || i >= LOCALS) {
            throw new IndexOutOfBoundsException("no such local");
        }
        return machine.locals[i];
    }

    public int memory(int i) throws IndexOutOfBoundsException {
        if (i < 0 || i >= PLACES) {
            throw new IndexOutOfBoundsException("no such place");
        }
        return machine.memory[i];
    }

    public int height() {
        return machine.stack.height;
    }

    public int stack(int i) throws IndexOutOfBoundsException {
        if (i < 0 || i >= machine.stack.height || i >= MOST_HEIGHT) {
            throw new IndexOutOfBoundsException("no such int on the stack");
        }
        return machine.stack.ints[i];
    }

    public int emitted() {
        return machine.emitted;
    }

    public int output(int i) throws IndexOutOfBoundsException {
        if (i < 0 || i >= machine.emitted || i < machine.emitted - KEPT_OUTPUT) {
            throw new IndexOutOfBoundsException("no such output");
        }
        return machine.output[i % KEPT_OUTPUT];
    }

    public long steps(int what) throws IndexOutOfBoundsException {
        switch (what) {
            case 0: return machine.steps;
            case 1: return stepsInPasses;
            case 2: return passesBegun;
            case 3: return passesRound;
            case 4: return recordingsBegun;
            case 5: return recordingsCut;
            default: throw new IndexOutOfBoundsException("no such count");
        }
    }

    public int heat(int address) throws IndexOutOfBoundsException {
        if (!code.holds(address)) {
            throw new IndexOutOfBoundsException("no such word");
        }
        return heats[address];
    }

    public int traces() {
        return traceTable.count;
    }

    public int traceAt(int i) throws IndexOutOfBoundsException {
        int address = traceTable.addressOf(i);
        if (address == NONE) {
            throw new IndexOutOfBoundsException("no such trace");
        }
        return address;
    }

    public int trace(int address, int what) throws IndexOutOfBoundsException {
        Trace found = traceTable.find(address);
        if (found == null) {
            throw new IndexOutOfBoundsException("no such trace");
        }
        switch (what) {
            case 0: return found.path.length;
            case 1: return found.path.guards;
            case 2: return found.path.newValues;
            case 3: return found.path.folded;
            case 4: return found.begun;
            case 5: return found.round;
            case 6: return found.bridgeCount;
            default: throw new IndexOutOfBoundsException("no such count");
        }
    }

    public int guard(int address, int k, int what) throws IndexOutOfBoundsException {
        Trace found = traceTable.find(address);
        if (found == null || k < 0 || k >= found.path.guards || k >= MOST_STEPS) {
            throw new IndexOutOfBoundsException("no such guard");
        }
        Path bridge = found.bridgeOf(k);
        switch (what) {
            case 0: return found.path.guardAddresses[k];
            case 1: return found.fails[k];
            case 2: return bridge == null ? 0 : bridge.length;
            case 3: return found.cuts[k];
            case 4: return bridge == null ? 0 : bridge.guards;
            case 5: return bridge == null ? 0 : bridge.newValues;
            case 6: return bridge == null ? 0 : bridge.folded;
            default: throw new IndexOutOfBoundsException("no such count");
        }
    }

    public int recording() {
        if (!recorder.isOn()) {
            return -1;
        }
        return recorder.isOfBridge() ? recorder.head + BRIDGE_MARK : recorder.head;
    }

    public boolean invalidate(int address) throws IndexOutOfBoundsException {
        if (!code.holds(address)) {
            throw new IndexOutOfBoundsException("no such word");
        }
        heats[address] = 0;
        cuts[address] = 0;
        if (recorder.head == address) {
            recorder.drop();
        }
        return traceTable.remove(address);
    }

    public void reset() {
        code.clear();
        machine.toBeginning();
        Arrays.fill(machine.locals, 0);
        machine.state = LOADING;
        traceTable.clear();
        recorder.drop();
        Arrays.fill(heats, 0);
        Arrays.fill(cuts, 0);
        stepsInPasses = 0;
        passesBegun = 0;
        passesRound = 0;
        recordingsBegun = 0;
        recordingsCut = 0;
    }

    /** Whether a pass was made and came round; if not, the next step is to be done plainly. */
    private boolean passComesRound(long end) {
        Trace trace = recorder.isOn() ? null : traceTable.find(machine.at);
        if (trace == null || trace.path.length > end - machine.steps) {
            return false;
        }
        passesBegun++;
        trace.begun++;
        int done = machine.follow(trace.path);
        stepsInPasses += done;
        boolean round = done == trace.path.length || bridgeComesRound(trace, trace.path.guardOf(done), end);
        if (round) {
            passesRound++;
            trace.round++;
        }
        return round;
    }

    private boolean bridgeComesRound(Trace trace, int guard, long end) {
        if (guard < 0 || guard >= MOST_STEPS) {
            return false;
        }
        trace.fails[guard]++;
        Path bridge = trace.bridgeOf(guard);
        if (bridge == null) {
            if (trace.wantsBridge(guard, threshold)) {
                beginRecording(trace.address, guard);
            }
            return false;
        }
        if (bridge.length > end - machine.steps) {
            return false;
        }
        int done = machine.follow(bridge);
        stepsInPasses += done;
        return done == bridge.length;
    }

    private void stepPlainly() {
        int from = machine.at;
        if (machine.wouldBreak()) {
            machine.state = BROKEN;
            if (recorder.isOn()) {
                cutOff();
            }
            return;
        }
        boolean zero = machine.stack.top() == 0;
        machine.step();
        if (recorder.isOn()) {
            recorder.path.add(from, zero);
        }
        if (isJump(code.op(from)) && machine.at <= from) {
            warm(machine.at);
        }
    }

    private void warm(int address) {
        if (!code.holds(address)) {
            return;
        }
        heats[address]++;
        boolean cold = cuts[address] >= CUTS_TO_BE_COLD;
        if (heats[address] >= threshold && !recorder.isOn() && traceTable.find(address) == null && !cold
                && traceTable.count < MOST_TRACES) {
            beginRecording(address, NONE);
        }
    }

    private void beginRecording(int head, int guard) {
        recordingsBegun++;
        recorder.begin(head, guard, machine.stack.height);
    }

    private void endRecording() {
        values.find(recorder.path);
        if (!recorder.isOfBridge()) {
            traceTable.add(recorder.head, recorder.path);
        } else {
            Trace trace = traceTable.find(recorder.head);
            if (trace != null) {
                trace.addBridge(recorder.guard, recorder.path);
            }
        }
        recorder.drop();
    }

    /** Asked only where there is fuel for a step: without it there is no step before which to cut off. */
    private boolean cutIsDue() {
        return recorder.isOn() && (recorder.path.length >= MOST_STEPS || code.op(machine.at) == HALT);
    }

    private void cutOff() {
        recordingsCut++;
        if (recorder.isOfBridge()) {
            Trace trace = traceTable.find(recorder.head);
            if (trace != null) {
                trace.noteCut(recorder.guard);
            }
        } else if (code.holds(recorder.head)) {
            heats[recorder.head] = 0;
            cuts[recorder.head]++;
        }
        recorder.drop();
    }

    private static boolean isJump(int op) {
        return op == GOTO || op == IF || op == UNLESS;
    }

    /** What the OPs 4 to 17 make of x and y; those of x alone leave y out. */
    private static int result(int op, int x, int y) {
        switch (op) {
            case ADD: return x + y;
            case SUB: return x - y;
            case MUL: return x * y;
            case DIV: return y == 0 ? 0 : x / y;
            case REM: return y == 0 ? 0 : x % y;
            case AND: return x & y;
            case OR: return x | y;
            case XOR: return x ^ y;
            case SHL: return x << (y & 31);
            case SHR: return x >> (y & 31);
            case LESS: return x < y ? 1 : 0;
            case SAME: return x == y ? 1 : 0;
            case NEG: return -x;
            case NOT: return x == 0 ? 1 : 0;
            default: return 0;
        }
    }

    /** The words, and what is wrong with them. */
    private static final class Code {
        final int[] words = new int[MOST_WORDS];
        final int[] heights = new int[MOST_WORDS];
        final int[] looked = new int[MOST_WORDS];
        int count;
        int faultPlace = NONE;

        void clear() {
            count = 0;
            faultPlace = NONE;
        }

        boolean holds(int address) {
            return address >= 0 && address < count && address < MOST_WORDS;
        }

        void put(int address, int word) {
            if (address < 0 || address > count || address >= MOST_WORDS) {
                return;
            }
            words[address] = word;
            if (address == count) {
                count++;
            }
        }

        int op(int address) {
            return holds(address) ? words[address] & 63 : HALT;
        }

        int argument(int address) {
            return holds(address) ? words[address] >> 6 : 0;
        }

        int findFault() {
            faultPlace = NONE;
            int fault = findFaultOfWords();
            return fault != 0 ? fault : findFaultOfHeights();
        }

        int findFaultOfWords() {
            for (int address = 0; address < count; address++) {
                int fault = faultOfWord(op(address), argument(address));
                if (fault != 0) {
                    faultPlace = address;
                    return fault;
                }
            }
            return 0;
        }

        int faultOfWord(int op, int argument) {
            if (op >= TAKES.length) {
                return NO_SUCH_OP;
            }
            boolean wrongLocal = (op == LOAD || op == STORE) && (argument < 0 || argument >= LOCALS);
            boolean wrongTarget = isJump(op) && !holds(argument);
            return wrongLocal || wrongTarget ? NO_SUCH_NUMBER : 0;
        }

        int findFaultOfHeights() {
            if (count == 0) {
                faultPlace = 0;
                return NO_SUCH_WORD;
            }
            Arrays.fill(heights, NONE);
            Arrays.fill(looked, 0);
            heights[0] = 0;
            int from = 0;
            for (int looks = 0; looks < count; looks++) {
                int address = leastToLookAt(from);
                if (address == NONE) {
                    return 0;
                }
                looked[address] = 1;
                int fault = lookAt(address);
                if (fault != 0) {
                    faultPlace = address;
                    return fault;
                }
                // All that is reached below this address was looked at, but for a target that was reached just now.
                from = isJump(op(address)) ? Math.min(address + 1, argument(address)) : address + 1;
            }
            return 0;
        }

        int leastToLookAt(int from) {
            for (int address = from < 0 ? 0 : from; address < count && address < MOST_WORDS; address++) {
                if (heights[address] != NONE && looked[address] == 0) {
                    return address;
                }
            }
            return NONE;
        }

        int lookAt(int address) {
            int op = op(address);
            if (!holds(address) || op >= TAKES.length || op >= GIVES.length) {
                return NO_SUCH_OP;
            }
            if (TAKES[op] > heights[address]) {
                return TAKES_TOO_MUCH;
            }
            int behind = heights[address] - TAKES[op] + GIVES[op];
            if (behind > MOST_HEIGHT) {
                return TOO_HIGH;
            }
            int fault = op == HALT || op == GOTO ? 0 : reach(address + 1, behind);
            return fault == 0 && isJump(op) ? reach(argument(address), behind) : fault;
        }

        int reach(int address, int height) {
            if (!holds(address)) {
                return NO_SUCH_WORD;
            }
            if (heights[address] != NONE && heights[address] != height) {
                return OTHER_HEIGHT;
            }
            heights[address] = height;
            return 0;
        }
    }

    /** At most 16 ints upon one another: the machine's own, and the values that stand for them in a path. */
    private static final class Pile {
        final int[] ints = new int[MOST_HEIGHT];
        int height;

        int top() {
            return height > 0 && height <= MOST_HEIGHT ? ints[height - 1] : 0;
        }

        int pop() {
            if (height <= 0 || height > MOST_HEIGHT) {
                return 0;
            }
            height--;
            return ints[height];
        }

        void push(int x) {
            if (height >= 0 && height < MOST_HEIGHT) {
                ints[height] = x;
                height++;
            }
        }

        void swap() {
            if (height < 2 || height > MOST_HEIGHT) {
                return;
            }
            int y = ints[height - 1];
            ints[height - 1] = ints[height - 2];
            ints[height - 2] = y;
        }
    }

    /** What plain steps work on. */
    private static final class Machine {
        final Code code;
        final int[] locals = new int[LOCALS];
        final Pile stack = new Pile();
        final int[] memory = new int[PLACES];
        final int[] output = new int[KEPT_OUTPUT];
        int state = LOADING;
        int at;
        int emitted;
        long steps;

        Machine(Code code) {
            this.code = code;
        }

        void toBeginning() {
            at = 0;
            stack.height = 0;
            emitted = 0;
            steps = 0;
            Arrays.fill(memory, 0);
        }

        void putOut(int x) {
            int index = emitted % KEPT_OUTPUT;
            if (index >= 0) {
                output[index] = x;
            }
            emitted++;
        }

        boolean wouldBreak() {
            int op = code.op(at);
            return (op == DIV || op == REM) && stack.top() == 0;
        }

        /** How many steps of the path were done before one that goes otherwise or would break. */
        int follow(Path path) {
            for (int i = 0; i < path.length; i++) {
                int op = code.op(at);
                boolean branches = op == IF || op == UNLESS;
                boolean otherwise = branches && (stack.top() == 0) != path.wasZero(i);
                if (otherwise || wouldBreak()) {
                    return i;
                }
                step();
            }
            return path.length;
        }

        /** The caller has seen that the step would not break. */
        void step() {
            int op = code.op(at);
            steps++;
            if (op >= ADD && op <= SAME) {
                int y = stack.pop();
                stack.push(result(op, stack.pop(), y));
                at++;
            } else if (op == GOTO) {
                at = code.argument(at);
            } else if (op == IF || op == UNLESS) {
                boolean goes = (stack.pop() == 0) == (op == UNLESS);
                at = goes ? code.argument(at) : at + 1;
            } else if (op == HALT) {
                // HALT goes on nowhere, so the address stays.
                state = HALTED;
            } else {
                move(op, code.argument(at));
                at++;
            }
        }

        void move(int op, int argument) {
            switch (op) {
                case PUSH:
                    stack.push(argument);
                    break;
                case LOAD:
                    stack.push(argument >= 0 && argument < LOCALS ? locals[argument] : 0);
                    break;
                case STORE:
                    store(argument, stack.pop());
                    break;
                case NEG:
                case NOT:
                    stack.push(result(op, stack.pop(), 0));
                    break;
                case DUP:
                    stack.push(stack.top());
                    break;
                case SWAP:
                    stack.swap();
                    break;
                case POP:
                    stack.pop();
                    break;
                case EMIT:
                    putOut(stack.pop());
                    break;
                case PEEK:
                    stack.push(memory[stack.pop() & 31]);
                    break;
                case POKE:
                    int word = stack.pop();
                    memory[stack.pop() & 31] = word;
                    break;
                default:
                    break;
            }
        }

        void store(int local, int x) {
            if (local >= 0 && local < LOCALS) {
                locals[local] = x;
            }
        }
    }

    /** The steps of a trace or a bridge, and what was found of their values. */
    private static final class Path {
        final int[] addresses = new int[MOST_STEPS];
        final int[] zeros = new int[MOST_STEPS];
        final int[] guardNumbers = new int[MOST_STEPS];
        final int[] guardAddresses = new int[MOST_STEPS];
        int length;
        int entryHeight;
        int guards;
        int newValues;
        int folded;

        void begin(int height) {
            length = 0;
            entryHeight = height;
            guards = 0;
            newValues = 0;
            folded = 0;
        }

        void add(int address, boolean zero) {
            if (length < 0 || length >= MOST_STEPS) {
                return;
            }
            addresses[length] = address;
            zeros[length] = zero ? 1 : 0;
            guardNumbers[length] = NONE;
            length++;
        }

        boolean wasZero(int step) {
            return step >= 0 && step < MOST_STEPS && zeros[step] == 1;
        }

        int guardOf(int step) {
            return step >= 0 && step < length && step < MOST_STEPS ? guardNumbers[step] : NONE;
        }

        void addGuard(int step) {
            if (step >= 0 && step < MOST_STEPS && guards >= 0 && guards < MOST_STEPS) {
                guardNumbers[step] = guards;
                guardAddresses[guards] = addresses[step];
                guards++;
            }
        }

        void copy(Path other) {
            System.arraycopy(other.addresses, 0, addresses, 0, MOST_STEPS);
            System.arraycopy(other.zeros, 0, zeros, 0, MOST_STEPS);
            System.arraycopy(other.guardNumbers, 0, guardNumbers, 0, MOST_STEPS);
            System.arraycopy(other.guardAddresses, 0, guardAddresses, 0, MOST_STEPS);
            length = other.length;
            entryHeight = other.entryHeight;
            guards = other.guards;
            newValues = other.newValues;
            folded = other.folded;
        }
    }

    /** What is being recorded, if anything is. */
    private static final class Recording {
        final Path path = new Path();
        int head = NONE;
        int guard = NONE;

        boolean isOn() {
            return head != NONE;
        }

        boolean isOfBridge() {
            return guard != NONE;
        }

        /** Without steps it has only just begun there. */
        boolean isBackAt(int address) {
            return isOn() && head == address && path.length > 0;
        }

        void begin(int newHead, int newGuard, int height) {
            head = newHead;
            guard = newGuard;
            path.begin(height);
        }

        void drop() {
            head = NONE;
            guard = NONE;
        }
    }

    /** A trace with its guards' counts and its bridges. */
    private static final class Trace {
        final Path path = new Path();
        final int[] fails = new int[MOST_STEPS];
        final int[] cuts = new int[MOST_STEPS];
        final int[] bridgeNumbers = new int[MOST_STEPS];
        final Path[] bridges = new Path[MOST_BRIDGES];
        int address;
        int bridgeCount;
        int begun;
        int round;

        void begin(int newAddress, Path steps) {
            address = newAddress;
            path.copy(steps);
            Arrays.fill(fails, 0);
            Arrays.fill(cuts, 0);
            Arrays.fill(bridgeNumbers, NONE);
            bridgeCount = 0;
            begun = 0;
            round = 0;
        }

        Path bridgeOf(int guard) {
            int number = guard >= 0 && guard < MOST_STEPS ? bridgeNumbers[guard] : NONE;
            return number >= 0 && number < MOST_BRIDGES ? bridges[number] : null;
        }

        boolean wantsBridge(int guard, int threshold) {
            return guard >= 0 && guard < MOST_STEPS && fails[guard] >= threshold && cuts[guard] < CUTS_TO_BE_COLD
                    && bridgeCount < MOST_BRIDGES;
        }

        void addBridge(int guard, Path steps) {
            if (guard < 0 || guard >= MOST_STEPS || bridgeCount < 0 || bridgeCount >= MOST_BRIDGES) {
                return;
            }
            // A bridge's rows outlive their trace, so that traces made again and again take no more room.
            Path bridge = bridges[bridgeCount];
            if (bridge == null) {
                bridge = new Path();
                bridges[bridgeCount] = bridge;
            }
            bridge.copy(steps);
            bridgeNumbers[guard] = bridgeCount;
            bridgeCount++;
        }

        void noteCut(int guard) {
            if (guard >= 0 && guard < MOST_STEPS) {
                cuts[guard]++;
                fails[guard] = 0;
            }
        }
    }

    /** The traces by their addresses; those that went are kept as spares to be used again. */
    private static final class Traces {
        final Trace[] byAddress = new Trace[MOST_WORDS];
        final Trace[] spares = new Trace[MOST_TRACES];
        int spareCount;
        int count;

        Trace find(int address) {
            return address >= 0 && address < MOST_WORDS ? byAddress[address] : null;
        }

        int addressOf(int i) {
            int before = 0;
            for (int address = 0; address < MOST_WORDS; address++) {
                if (byAddress[address] != null) {
                    if (before == i) {
                        return address;
                    }
                    before++;
                }
            }
            return NONE;
        }

        void add(int address, Path steps) {
            if (address < 0 || address >= MOST_WORDS || byAddress[address] != null || count >= MOST_TRACES) {
                return;
            }
            Trace trace = spare();
            if (trace == null) {
                trace = new Trace();
            }
            trace.begin(address, steps);
            byAddress[address] = trace;
            count++;
        }

        Trace spare() {
            if (spareCount <= 0 || spareCount > MOST_TRACES) {
                return null;
            }
            spareCount--;
            return spares[spareCount];
        }

        boolean remove(int address) {
            if (address < 0 || address >= MOST_WORDS || byAddress[address] == null) {
                return false;
            }
            if (spareCount >= 0 && spareCount < MOST_TRACES) {
                spares[spareCount] = byAddress[address];
                spareCount++;
            }
            byAddress[address] = null;
            count--;
            return true;
        }

        void clear() {
            for (int address = 0; address < MOST_WORDS; address++) {
                remove(address);
            }
        }
    }

    /**
     * Finds the values of a path. A value is a number: below MOST_ENTRIES what locals and the stack have when it
     * begins, above it what a step made, known by its OP and operands. A constant is made by PUSH of itself.
     */
    private static final class Values {
        final Code code;
        final int[] locals = new int[LOCALS];
        final Pile stack = new Pile();
        final int[] places = new int[PLACES];
        final int[] ops = new int[MOST_VALUES];
        final int[] lefts = new int[MOST_VALUES];
        final int[] rights = new int[MOST_VALUES];
        final int[] guarded = new int[MOST_VALUES];
        int count;
        int countAtPoke;

        Values(Code code) {
            this.code = code;
            // What is there at first was made by no OP, and these rows are never written again.
            Arrays.fill(ops, NONE);
        }

        void find(Path path) {
            begin(path.entryHeight);
            for (int i = 0; i < path.length && i < MOST_STEPS; i++) {
                lookAt(path, i);
            }
        }

        void begin(int entryHeight) {
            for (int i = 0; i < LOCALS; i++) {
                locals[i] = i;
            }
            for (int i = 0; i < MOST_HEIGHT; i++) {
                stack.ints[i] = LOCALS + i;
            }
            Arrays.fill(places, NONE);
            Arrays.fill(guarded, 0);
            stack.height = entryHeight;
            count = MOST_ENTRIES;
            countAtPoke = MOST_ENTRIES;
        }

        void lookAt(Path path, int i) {
            int op = code.op(path.addresses[i]);
            int argument = code.argument(path.addresses[i]);
            switch (op) {
                case PUSH:
                    stack.push(constant(argument));
                    break;
                case LOAD:
                    stack.push(argument >= 0 && argument < LOCALS ? locals[argument] : 0);
                    break;
                case STORE:
                    store(argument, stack.pop());
                    break;
                case DUP:
                    stack.push(stack.top());
                    break;
                case SWAP:
                    stack.swap();
                    break;
                case POP:
                case EMIT:
                    stack.pop();
                    break;
                case IF:
                case UNLESS:
                    guardOn(stack.pop(), path, i);
                    break;
                case PEEK:
                    stack.push(peeked(stack.pop(), path));
                    break;
                case POKE:
                    int value = stack.pop();
                    notePoke(stack.pop(), value);
                    break;
                default:
                    if (op >= ADD && op <= NOT) {
                        work(op, path, i);
                    }
                    break;
            }
        }

        void store(int local, int value) {
            if (local >= 0 && local < LOCALS) {
                locals[local] = value;
            }
        }

        boolean isConstant(int value) {
            return value >= 0 && value < MOST_VALUES && ops[value] == PUSH;
        }

        int constant(int number) {
            int same = made(PUSH, number, NONE, MOST_ENTRIES);
            return same != NONE ? same : make(PUSH, number, NONE);
        }

        int numberOf(int value) {
            return isConstant(value) ? lefts[value] : 0;
        }

        int made(int op, int left, int right, int from) {
            for (int value = from < 0 ? 0 : from; value < count && value < MOST_VALUES; value++) {
                if (ops[value] == op && lefts[value] == left && rights[value] == right) {
                    return value;
                }
            }
            return NONE;
        }

        int make(int op, int left, int right) {
            // A step makes one value at most, so the rows hold all that a path can make.
            if (count < 0 || count >= MOST_VALUES) {
                return 0;
            }
            ops[count] = op;
            lefts[count] = left;
            rights[count] = right;
            count++;
            return count - 1;
        }

        void guardOn(int value, Path path, int i) {
            if (value < 0 || value >= MOST_VALUES || isConstant(value) || guarded[value] == 1) {
                return;
            }
            guarded[value] = 1;
            path.addGuard(i);
        }

        void work(int op, Path path, int i) {
            int right = op <= SAME ? stack.pop() : NONE;
            int left = stack.pop();
            if (op == DIV || op == REM) {
                guardOn(right, path, i);
            }
            if (isConstant(left) && (right == NONE || isConstant(right))) {
                path.folded++;
                stack.push(constant(result(op, numberOf(left), numberOf(right))));
                return;
            }
            int same = made(op, left, right, MOST_ENTRIES);
            stack.push(same != NONE ? same : makeNew(op, left, right, path));
        }

        int makeNew(int op, int left, int right, Path path) {
            path.newValues++;
            return make(op, left, right);
        }

        int peeked(int place, Path path) {
            if (!isConstant(place)) {
                int same = made(PEEK, place, NONE, countAtPoke);
                return same != NONE ? same : makeNew(PEEK, place, NONE, path);
            }
            int index = numberOf(place) & 31;
            if (places[index] == NONE) {
                places[index] = makeNew(PEEK, place, NONE, path);
            }
            return places[index];
        }

        void notePoke(int place, int value) {
            countAtPoke = count;
            if (isConstant(place)) {
                places[numberOf(place) & 31] = value;
            } else {
                Arrays.fill(places, NONE);
            }
        }
    }
}
