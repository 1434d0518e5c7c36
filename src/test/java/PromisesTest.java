/** For each promise of the document: ordinary inputs, the edges that it names, and wrong inputs. */
public final class PromisesTest extends Codes {
    public static void main(String[] args) {
        promise01NewObject();
        promise02Poke();
        promise03And04Verify();
        promise05SetLocal();
        promise06Start();
        promise07Run();
        promise08And09StateAndAddress();
        promise10And11LocalAndMemory();
        promise12And13Stack();
        promise14And15Output();
        promise16Steps();
        promise17Heat();
        promise18And19Traces();
        promise20Trace();
        promise20TraceOfMemory();
        promise21Guard();
        promise21Bridges();
        promise21BridgeLeft();
        promise21Divisions();
        promise22Recording();
        promise22Cuts();
        promise23Invalidate();
        promise24Reset();
        termsInstructions();
        termsLimitsOfBridges();
        exampleOfReadme();
        Check.finish("PromisesTest");
    }

    private static void promise01NewObject() {
        LoopTracer x = new LoopTracer(5);
        Check.same("new state", x.state(), LoopTracer.LOADING);
        Check.same("new address", x.address(), 0);
        Check.same("new place", x.place(), -1);
        Check.same("new height", x.height(), 0);
        Check.same("new emitted", x.emitted(), 0);
        Check.same("new traces", x.traces(), 0);
        Check.same("new recording", x.recording(), -1);
        for (int what = 0; what < 6; what++) {
            Check.same("new steps", x.steps(what), 0L);
        }
        Check.noSuch("new heat", () -> x.heat(0));
        int[][] thresholds = {{1, 1}, {2, 2}, {1000, 1000}, {0, 3}, {-1, 3}, {1001, 3}, {MIN, 3}, {MAX, 3}};
        for (int[] t : thresholds) {
            LoopTracer y = started(t[0], w(GOTO, 0));
            y.run(t[1] - 1);
            Check.same("threshold " + t[0] + " not yet", y.recording(), -1);
            y.run(1);
            Check.same("threshold " + t[0] + " now", y.recording(), 0);
        }
    }

    private static void promise02Poke() {
        LoopTracer x = new LoopTracer(3);
        Check.noSuch("poke before the first", () -> x.poke(-1, 0));
        Check.noSuch("poke behind the next", () -> x.poke(1, 0));
        Check.noSuch("poke at the least int", () -> x.poke(MIN, 0));
        Check.noSuch("poke at the greatest int", () -> x.poke(MAX, 0));
        for (int a = 0; a < 200; a++) {
            Check.same("poke behind all", x.poke(a, w(PUSH, 1)), a + 1);
        }
        Check.noSuch("the 201st word", () -> x.poke(200, 0));
        Check.noSuch("far behind", () -> x.poke(201, 0));
        Check.same("poke in place", x.poke(0, HALT), 200);
        Check.same("poke in the last place", x.poke(199, HALT), 200);
        Check.same("the word in place counts", x.verify(), 0);
        Check.notNow("poke when READY", () -> x.poke(0, HALT));
        Check.noSuch("wrong address when READY", () -> x.poke(200, HALT));
        x.start();
        Check.notNow("poke when RUNNING", () -> x.poke(0, HALT));
        x.run(1);
        Check.notNow("poke when HALTED", () -> x.poke(0, HALT));
    }

    private static void promise03And04Verify() {
        fault(6, 0);
        fault(0, -1, HALT);
        fault(1, 0, 27);
        fault(1, 1, HALT, 63);
        fault(1, 1, HALT, -1);
        fault(0, -1, HALT, 26);
        fault(2, 0, w(LOAD, 16), HALT);
        fault(2, 0, w(LOAD, -1), HALT);
        fault(2, 1, w(PUSH, 0), w(STORE, 16), HALT);
        fault(0, -1, w(LOAD, 15), w(STORE, 0), HALT);
        fault(2, 0, w(GOTO, 2), HALT);
        fault(2, 0, w(GOTO, -1), HALT);
        fault(2, 1, w(PUSH, 0), w(IF, 3), HALT);
        fault(2, 1, w(PUSH, 0), w(UNLESS, 3), HALT);
        // Faults of words come by addresses, before all heights, and for words that are never reached too.
        fault(2, 1, ADD, w(LOAD, 99), 27);
        fault(1, 1, ADD, 27, w(LOAD, 99));
        fault(2, 1, HALT, w(GOTO, 7));
        for (int op : new int[] {STORE, NEG, NOT, DUP, POP, EMIT, PEEK}) {
            fault(3, 0, w(op, 0), HALT);
            fault(0, -1, w(PUSH, 0), w(op, 0), HALT);
        }
        for (int op : new int[] {IF, UNLESS}) {
            fault(3, 0, w(op, 1), HALT);
            fault(0, -1, w(PUSH, 0), w(op, 2), HALT);
        }
        for (int op = ADD; op <= SAME; op++) {
            fault(3, 1, w(PUSH, 0), op, HALT);
            fault(0, -1, w(PUSH, 0), w(PUSH, 0), op, HALT);
        }
        fault(3, 1, w(PUSH, 0), SWAP, HALT);
        fault(3, 1, w(PUSH, 0), POKE, HALT);
        fault(0, -1, w(PUSH, 0), w(PUSH, 0), SWAP, POKE, HALT);
        heights();
        // A word that is never reached may take what is not there.
        fault(0, -1, w(GOTO, 2), ADD, HALT);
        // It is told at the one that is looked at, not at the one that was reached.
        fault(5, 2, w(LOAD, 0), w(IF, 3), w(PUSH, 1), w(GOTO, 3));
        fault(5, 1, w(PUSH, 0), w(GOTO, 0));
        fault(6, 0, w(PUSH, 0));
        fault(6, 1, w(PUSH, 0), w(IF, 0));
        // The next one is looked at before the target is reached: 6 comes before 5.
        fault(6, 2, w(PUSH, 0), w(PUSH, 0), w(IF, 0));
        fault(5, 2, w(PUSH, 0), w(PUSH, 0), w(IF, 0), HALT);
        // The least address that is open comes first: 2 (reached from 4) before 5.
        fault(3, 2, w(GOTO, 3), HALT, ADD, w(LOAD, 0), w(IF, 2), ADD, HALT);
        LoopTracer x = started(3, HALT);
        Check.same("verify when RUNNING", x.verify(), 0);
        Check.same("stays RUNNING", x.state(), LoopTracer.RUNNING);
        LoopTracer y = loaded(3, 27);
        Check.same("a fault first", y.verify(), 1);
        y.poke(0, HALT);
        Check.same("its place stays", y.place(), 0);
        Check.same("mended", y.verify(), 0);
        Check.same("no place", y.place(), -1);
    }

    private static void heights() {
        int[] words = new int[18];
        for (int a = 0; a < 16; a++) {
            words[a] = w(PUSH, a);
        }
        words[16] = HALT;
        fault(0, -1, words);
        for (int op : new int[] {w(PUSH, 0), w(LOAD, 0), DUP}) {
            words[16] = op;
            words[17] = HALT;
            fault(4, 16, words);
        }
    }

    private static void promise05SetLocal() {
        LoopTracer x = loaded(3, HALT);
        Check.notNow("setLocal when LOADING", () -> x.setLocal(0, 1));
        Check.noSuch("wrong local when LOADING", () -> x.setLocal(16, 1));
        x.verify();
        Check.same("setLocal", x.setLocal(0, 5), 0);
        Check.same("setLocal again", x.setLocal(0, MIN), 5);
        Check.same("setLocal once more", x.setLocal(0, 7), MIN);
        Check.same("the last local", x.setLocal(15, 3), 0);
        Check.noSuch("local 16", () -> x.setLocal(16, 1));
        Check.noSuch("local -1", () -> x.setLocal(-1, 1));
        Check.noSuch("local MIN", () -> x.setLocal(MIN, 1));
        x.start();
        Check.notNow("setLocal when RUNNING", () -> x.setLocal(0, 1));
        x.run(1);
        Check.same("setLocal when HALTED", x.setLocal(15, 4), 3);
        LoopTracer y = started(3, w(PUSH, 0), w(PUSH, 0), DIV, HALT);
        y.run(9);
        Check.same("setLocal when BROKEN", y.setLocal(2, 4), 0);
    }

    private static void promise06Start() {
        LoopTracer x = loaded(2, countDown(5));
        Check.notNow("start when LOADING", () -> {
            x.start();
            return 0;
        });
        LoopTracer y = started(2, w(PUSH, 3), w(PUSH, 8), POKE, w(PUSH, 6), EMIT, w(LOAD, 1), w(PUSH, 1), ADD,
                w(STORE, 1), w(PUSH, 9), w(GOTO, 10));
        y.run(12);
        Check.same("emitted before", y.emitted(), 1);
        Check.same("memory before", y.memory(3), 8);
        Check.same("height before", y.height(), 1);
        Check.same("recording before", y.recording(), 10);
        y.start();
        Check.same("state", y.state(), LoopTracer.RUNNING);
        Check.same("address", y.address(), 0);
        Check.same("height", y.height(), 0);
        Check.same("emitted", y.emitted(), 0);
        Check.same("memory", y.memory(3), 0);
        Check.same("steps", y.steps(0), 0L);
        Check.same("locals stay", y.local(1), 1);
        Check.same("heat stays", y.heat(10), 2);
        Check.same("recording is no more", y.recording(), -1);
        Check.same("which is no cut", y.steps(5), 0L);
        Check.same("recordings that began stay", y.steps(4), 1L);
        y.run(11);
        Check.same("hot at once", y.recording(), 10);
        y.run(1);
        y.start();
        Check.same("traces stay", y.traces(), 1);
    }

    private static void promise07Run() {
        LoopTracer x = loaded(3, countDown(5));
        Check.notNow("run when LOADING", () -> x.run(1));
        Check.is("wrong fuel when LOADING", () -> x.run(-1), "throws.IllegalArgumentException");
        x.verify();
        Check.notNow("run when READY", () -> x.run(1));
        x.start();
        Check.is("fuel -1", () -> x.run(-1), "throws.IllegalArgumentException");
        Check.is("fuel MIN", () -> x.run(MIN), "throws.IllegalArgumentException");
        Check.is("fuel 100001", () -> x.run(100001), "throws.IllegalArgumentException");
        Check.same("fuel 0", x.run(0), LoopTracer.RUNNING);
        Check.same("no step", x.steps(0), 0L);
        Check.same("all but HALT", x.run(32), LoopTracer.RUNNING);
        Check.same("at HALT", x.address(), 8);
        Check.same("no fuel for HALT", x.run(0), LoopTracer.RUNNING);
        Check.same("HALT is a step", x.run(1), LoopTracer.HALTED);
        Check.same("all steps", x.steps(0), 33L);
        Check.notNow("run when HALTED", () -> x.run(1));
        LoopTracer y = started(3, w(GOTO, 0));
        Check.same("much fuel", y.run(100000), LoopTracer.RUNNING);
        Check.same("all of it", y.steps(0), 100000L);
        LoopTracer z = started(3, w(PUSH, 1), w(PUSH, 0), REM, HALT);
        Check.same("breaks", z.run(100), LoopTracer.BROKEN);
        Check.same("what breaks is no step", z.steps(0), 2L);
        Check.notNow("run when BROKEN", () -> z.run(1));
    }

    private static void promise08And09StateAndAddress() {
        LoopTracer x = loaded(3, w(PUSH, 1), w(GOTO, 3), HALT, POP, HALT);
        Check.same("LOADING", x.state(), LoopTracer.LOADING);
        x.verify();
        Check.same("READY", x.state(), LoopTracer.READY);
        Check.same("address before any start", x.address(), 0);
        x.start();
        Check.same("RUNNING", x.state(), LoopTracer.RUNNING);
        int[] addresses = {1, 3, 4};
        for (int a : addresses) {
            x.run(1);
            Check.same("address", x.address(), a);
        }
        x.run(1);
        Check.same("HALTED", x.state(), LoopTracer.HALTED);
        Check.same("HALT goes nowhere", x.address(), 4);
        x.start();
        Check.same("address 0 again", x.address(), 0);
        LoopTracer y = started(3, w(PUSH, 1), w(PUSH, 0), DIV, HALT);
        y.run(3);
        Check.same("BROKEN", y.state(), LoopTracer.BROKEN);
        Check.same("broken there", y.address(), 2);
    }

    private static void promise10And11LocalAndMemory() {
        LoopTracer x = started(3, w(PUSH, -7), w(STORE, 15), w(PUSH, 31), w(PUSH, 5), POKE, w(PUSH, -32), w(PUSH, 6),
                POKE, w(PUSH, 65), w(PUSH, 8), POKE, HALT);
        Check.same("locals are 0 at first", x.local(15), 0);
        x.run(100);
        Check.same("local", x.local(15), -7);
        Check.same("the last place", x.memory(31), 5);
        Check.same("-32 is place 0", x.memory(0), 6);
        Check.same("65 is place 1", x.memory(1), 8);
        for (int i : new int[] {-1, 16, MIN, MAX}) {
            Check.noSuch("local " + i, () -> x.local(i));
        }
        for (int i : new int[] {-1, 32, MIN, MAX}) {
            Check.noSuch("memory " + i, () -> x.memory(i));
        }
    }

    private static void promise12And13Stack() {
        LoopTracer x = started(3, w(PUSH, 4), w(PUSH, 5), DUP, ADD, SWAP, POP, HALT);
        int[] heights = {1, 2, 3, 2, 2, 1};
        int[] tops = {4, 5, 5, 10, 4, 10};
        Check.noSuch("an empty stack", () -> x.stack(0));
        for (int i = 0; i < heights.length; i++) {
            x.run(1);
            int height = heights[i];
            Check.same("height", x.height(), height);
            Check.same("top", x.stack(height - 1), tops[i]);
            Check.noSuch("above the top", () -> x.stack(height));
        }
        Check.noSuch("stack -1", () -> x.stack(-1));
        Check.noSuch("stack MIN", () -> x.stack(MIN));
        int[] words = new int[17];
        for (int a = 0; a < 16; a++) {
            words[a] = w(PUSH, a + 100);
        }
        LoopTracer y = started(3, words);
        y.run(17);
        Check.same("a full stack", y.height(), 16);
        Check.same("the lowest", y.stack(0), 100);
        Check.same("the topmost", y.stack(15), 115);
        Check.noSuch("stack 16", () -> y.stack(16));
    }

    private static void promise14And15Output() {
        // Puts out 1, 2, 3, .. for ever.
        LoopTracer x = started(3, w(LOAD, 0), w(PUSH, 1), ADD, DUP, w(STORE, 0), EMIT, w(GOTO, 0));
        Check.noSuch("no output", () -> x.output(0));
        x.run(7 * 200);
        Check.same("200 are out", x.emitted(), 200);
        Check.same("the first", x.output(0), 1);
        Check.same("the last", x.output(199), 200);
        Check.noSuch("the next", () -> x.output(200));
        Check.noSuch("output -1", () -> x.output(-1));
        Check.noSuch("output MIN", () -> x.output(MIN));
        x.run(7);
        Check.same("201 are out", x.emitted(), 201);
        Check.noSuch("not of the latest 200", () -> x.output(0));
        Check.same("the least that is kept", x.output(1), 2);
        Check.same("the latest", x.output(200), 201);
        x.run(70000);
        Check.same("many are out", x.emitted(), 10201);
        Check.noSuch("not kept", () -> x.output(10000));
        Check.same("kept", x.output(10001), 10002);
        x.start();
        Check.same("none since start", x.emitted(), 0);
        Check.noSuch("nothing kept over start", () -> x.output(0));
    }

    private static void promise16Steps() {
        LoopTracer x = started(2, countDown(6));
        x.run(2 + 12);
        stepsAre("hot", x, 14, 0, 0, 0, 1, 0);
        x.run(6);
        stepsAre("recorded", x, 20, 0, 0, 0, 1, 0);
        x.run(6);
        stepsAre("one pass", x, 26, 6, 1, 1, 1, 0);
        x.run(5);
        stepsAre("no fuel for a pass", x, 31, 6, 1, 1, 1, 0);
        x.run(1000);
        stepsAre("halted", x, 39, 11, 2, 1, 1, 0);
        x.start();
        stepsAre("started again", x, 0, 0, 2, 1, 1, 0);
        x.run(1000);
        stepsAre("halted again", x, 39, 35, 8, 6, 2, 1);
        for (int what : new int[] {-1, 6, MIN, MAX}) {
            Check.noSuch("steps " + what, () -> x.steps(what));
        }
    }

    private static void promise17Heat() {
        LoopTracer x = started(3, countDown(100));
        x.run(2 + 6);
        Check.same("one jump back", x.heat(2), 1);
        x.run(12);
        Check.same("hot", x.heat(2), 3);
        x.run(6);
        Check.same("recording adds too", x.heat(2), 4);
        x.run(60);
        Check.same("passes add nothing", x.heat(2), 4);
        x.run(6 * 5 + 5);
        Check.same("passes first", x.heat(2), 4);
        x.run(2);
        Check.same("plain steps for want of fuel add", x.heat(2), 5);
        for (int a : new int[] {-1, 9, 200, MIN, MAX}) {
            Check.noSuch("heat " + a, () -> x.heat(a));
        }
        Check.same("heat of the last word", x.heat(8), 0);
        // A jump forward adds nothing, one to itself adds 1, and one that is not done adds nothing.
        LoopTracer y = started(9, w(GOTO, 1), w(PUSH, 0), w(IF, 0), w(PUSH, 1), w(UNLESS, 0), w(GOTO, 5));
        y.run(5);
        Check.same("nothing yet", y.heat(0) + y.heat(1) + y.heat(5), 0);
        y.run(3);
        Check.same("to itself", y.heat(5), 3);
        promise17Cold();
    }

    private static void promise17Cold() {
        // 60 steps lie between two comings to 0, so all that begins there is cut off.
        int[] words = new int[60];
        java.util.Arrays.fill(words, w(GOTO, 0));
        for (int a = 0; a < 59; a++) {
            words[a] = w(GOTO, a + 1);
        }
        LoopTracer x = started(1, words);
        x.run(60);
        Check.same("recording", x.recording(), 0);
        x.run(48);
        Check.same("48 steps are kept", x.recording(), 0);
        x.run(1);
        Check.same("cut off before the 49th", x.recording(), -1);
        Check.same("no heat", x.heat(0), 0);
        stepsAre("first cut", x, 109, 0, 0, 0, 1, 1);
        x.run(60 * 2);
        stepsAre("third cut", x, 229, 0, 0, 0, 3, 3);
        x.run(600);
        stepsAre("cold", x, 829, 0, 0, 0, 3, 3);
        Check.same("heat grows on", x.heat(0), 10);
        x.invalidate(0);
        x.run(59);
        stepsAre("no more cold", x, 888, 0, 0, 0, 4, 3);
        words = java.util.Arrays.copyOf(words, 48);
        words[47] = w(GOTO, 0);
        LoopTracer y = started(1, words);
        y.run(96);
        Check.same("48 steps are a trace", y.trace(0, 0), 48);
        Check.same("no more recorded", y.recording(), -1);
    }

    private static void promise18And19Traces() {
        // 17 loops, each at 8 k + 2; the table holds 16.
        LoopTracer x = started(2, loops(17));
        for (int k = 0; k < 17; k++) {
            Check.same("traces", x.traces(), k);
            x.run(26);
        }
        Check.same("16 traces", x.traces(), 16);
        Check.same("no 17th recording", x.steps(4), 16L);
        Check.same("the 17th was hot", x.heat(16 * 8 + 2), 3);
        for (int k = 0; k < 16; k++) {
            Check.same("by addresses", x.traceAt(k), 8 * k + 2);
        }
        for (int k : new int[] {-1, 16, MIN, MAX}) {
            Check.noSuch("traceAt " + k, () -> x.traceAt(k));
        }
        x.invalidate(2);
        x.invalidate(34);
        Check.same("14 traces", x.traces(), 14);
        Check.same("the first is another one", x.traceAt(0), 10);
        Check.same("34 is gone", x.traceAt(3), 42);
        x.start();
        x.run(26);
        Check.same("made again", x.traceAt(0), 2);
    }

    private static void promise20Trace() {
        LoopTracer x = started(1, countDown(5));
        Check.noSuch("no trace yet", () -> x.trace(2, 0));
        x.run(2 + 12);
        traceIs(x, 2, 6, 1, 1, 0, 0, 0, 0);
        x.run(6);
        traceIs(x, 2, 6, 1, 1, 0, 1, 1, 0);
        for (int what : new int[] {-1, 7, MIN, MAX}) {
            Check.noSuch("trace what " + what, () -> x.trace(2, what));
        }
        for (int a : new int[] {-1, 0, 3, 9, 200, MIN, MAX}) {
            Check.noSuch("trace at " + a, () -> x.trace(a, 0));
        }
        x.run(100);
        traceIs(x, 2, 6, 1, 1, 0, 3, 2, 0);
        // Constants are folded, through locals, DUP and SWAP too.
        traceIs(recordedLoop(w(PUSH, 2), w(STORE, 0), w(LOAD, 0), w(PUSH, 3), MUL, DUP, SWAP, SUB, NEG, NOT, w(IF, 0)),
                0, 11, 0, 0, 4, 0, 0, 0);
        // The same OP of the same operands is the same value; in another order, or another OP, it is not.
        traceIs(recordedLoop(w(LOAD, 0), w(LOAD, 1), ADD, w(LOAD, 0), w(LOAD, 1), ADD, w(LOAD, 1), w(LOAD, 0), ADD,
                w(LOAD, 0), w(LOAD, 1), SUB, EMIT, EMIT, EMIT, EMIT), 0, 17, 0, 3, 0);
        traceIs(recordedLoop(w(LOAD, 0), w(PUSH, 5), ADD, EMIT, w(LOAD, 0), w(PUSH, 2), w(PUSH, 3), ADD, ADD, EMIT),
                0, 11, 0, 1, 1);
        traceIs(recordedLoop(w(LOAD, 0), NEG, w(LOAD, 0), NOT, w(LOAD, 0), NEG, EMIT, EMIT, EMIT), 0, 10, 0, 2, 0);
        // Operands that are alike but no constants are not folded.
        traceIs(recordedLoop(w(LOAD, 0), DUP, SAME, EMIT), 0, 5, 0, 1, 0);
        // What the stack has at first is of its own, place by place.
        LoopTracer s = started(1, w(PUSH, 1), w(PUSH, 1), DUP, NOT, EMIT, SWAP, DUP, NOT, EMIT, SWAP, w(GOTO, 2));
        s.run(2 + 9 + 9);
        traceIs(s, 2, 9, 0, 2, 0);
        // A guard is left out where its value is known, and kept for another value.
        traceIs(recordedLoop(w(LOAD, 0), w(IF, 0), w(LOAD, 0), w(UNLESS, 4), w(LOAD, 1), w(IF, 0), w(LOAD, 0), NOT,
                w(UNLESS, 0)), 0, 9 + 1, 3, 1, 0);
        traceIs(recordedLoop(w(PUSH, 1), w(UNLESS, 0), w(PUSH, 0), w(IF, 0)), 0, 5, 0, 0, 0);
    }

    private static void promise20TraceOfMemory() {
        // Put and found at constant places, alike by 31.
        traceIs(recordedLoop(w(PUSH, 1), w(PUSH, 7), POKE, w(PUSH, 33), PEEK, w(PUSH, 1), ADD, EMIT), 0, 9, 0, 0, 1);
        traceIs(recordedLoop(w(PUSH, 2), PEEK, w(PUSH, -30), PEEK, ADD, EMIT), 0, 7, 0, 2, 0);
        traceIs(recordedLoop(w(PUSH, 2), PEEK, w(PUSH, 18), PEEK, ADD, EMIT), 0, 7, 0, 3, 0);
        traceIs(recordedLoop(w(PUSH, 2), PEEK, w(PUSH, 3), w(LOAD, 0), POKE, w(PUSH, 2), PEEK, SAME, EMIT),
                0, 10, 0, 2, 0);
        traceIs(recordedLoop(w(PUSH, 2), PEEK, w(PUSH, 2), w(LOAD, 0), POKE, w(PUSH, 2), PEEK, SAME, EMIT,
                w(PUSH, 2), PEEK, w(LOAD, 0), SAME, EMIT), 0, 15, 0, 3, 0);
        // A POKE of a place that is no constant ends what was known of all places.
        traceIs(recordedLoop(w(PUSH, 2), PEEK, EMIT, w(LOAD, 0), w(PUSH, 9), POKE, w(PUSH, 2), PEEK, EMIT,
                w(PUSH, 2), PEEK, EMIT), 0, 13, 0, 2, 0);
        traceIs(recordedLoop(w(LOAD, 0), w(PUSH, 9), POKE, w(PUSH, 2), w(PUSH, 4), POKE, w(PUSH, 2), PEEK, NOT, EMIT),
                0, 11, 0, 0, 1);
        // Places that are no constants: of that very value, and till any POKE.
        traceIs(recordedLoop(w(LOAD, 0), PEEK, EMIT, w(LOAD, 0), PEEK, EMIT, w(LOAD, 1), PEEK, EMIT), 0, 10, 0, 2, 0);
        traceIs(recordedLoop(w(LOAD, 0), PEEK, EMIT, w(PUSH, 1), w(PUSH, 1), POKE, w(LOAD, 0), PEEK, EMIT),
                0, 10, 0, 2, 0);
        traceIs(recordedLoop(w(LOAD, 0), PEEK, EMIT, w(LOAD, 1), w(PUSH, 1), POKE, w(LOAD, 0), PEEK, EMIT),
                0, 10, 0, 2, 0);
        traceIs(recordedLoop(w(LOAD, 0), w(PUSH, 1), POKE, w(LOAD, 0), PEEK, EMIT), 0, 7, 0, 1, 0);
    }

    private static void promise21Guard() {
        LoopTracer x = started(2, oddSum(41));
        // 41 odd, 40 even and 39 odd are done plainly; 39 is recorded.
        x.run(2 + 14 + 10 + 14);
        traceIs(x, 2, 14, 2, 3, 0, 0, 0, 0);
        guardIs(x, 2, 0, 5, 0, 0, 0, 0, 0, 0);
        guardIs(x, 2, 1, 15, 0, 0, 0, 0, 0, 0);
        x.run(14);
        guardIs(x, 2, 0, 5, 1, 0, 0, 0, 0, 0);
        Check.same("left, then plain", x.steps(1), 3L);
        x.run(10 - 4 + 6);
        Check.same("no pass without fuel", x.steps(2), 1L);
        x.run(8);
        x.run(14);
        traceIs(x, 2, 14, 2, 3, 0, 2, 1, 0);
        // The second fail, of 34: the bridge is recorded, and 4 steps of 33 are left to be done plainly.
        x.run(14);
        guardIs(x, 2, 0, 5, 2, 7, 0, 2, 1, 0);
        traceIs(x, 2, 14, 2, 3, 0, 3, 1, 1);
        x.run(10);
        x.run(14);
        guardIs(x, 2, 0, 5, 3, 7, 0, 2, 1, 0);
        traceIs(x, 2, 14, 2, 3, 0, 4, 2, 1);
        Check.same("steps in the bridge count", x.steps(1), 3L + 14 + 3 + 3 + 7);
        x.run(100000);
        Check.same("halted", x.state(), LoopTracer.HALTED);
        Check.same("what plain steps give", x.local(1), 441);
        for (int k : new int[] {-1, 2, MIN, MAX}) {
            Check.noSuch("guard k " + k, () -> x.guard(2, k, 0));
        }
        for (int what : new int[] {-1, 7, MIN, MAX}) {
            Check.noSuch("guard what " + what, () -> x.guard(2, 0, what));
        }
        for (int a : new int[] {-1, 0, 17, 200, MIN, MAX}) {
            Check.noSuch("guard at " + a, () -> x.guard(a, 0, 0));
        }
    }

    private static void promise21Bridges() {
        // Even numbers go round the trace of 9 steps, the others leave it at 7 for a bridge of 6 steps.
        LoopTracer x = started(1, w(LOAD, 0), w(PUSH, 1), ADD, DUP, w(STORE, 0), w(PUSH, 1), AND, w(IF, 9), w(GOTO, 0),
                w(LOAD, 0), w(LOAD, 1), AND, w(IF, 14), w(GOTO, 0), w(PUSH, 7), EMIT, w(GOTO, 0));
        x.run(13);
        Check.same("hot", x.recording(), 0);
        x.run(9 + 9);
        traceIs(x, 0, 9, 1, 2, 0, 1, 0, 0);
        x.run(4);
        traceIs(x, 0, 9, 1, 2, 0, 1, 0, 1);
        guardIs(x, 0, 0, 7, 1, 6, 0, 2, 1, 0);
        x.run(9);
        traceIs(x, 0, 9, 1, 2, 0, 2, 1, 1);
        // 7 steps till the guard and 6 of the bridge: with one step less the bridge is not done.
        x.run(12);
        traceIs(x, 0, 9, 1, 2, 0, 3, 1, 1);
        guardIs(x, 0, 0, 7, 2, 6, 0);
        Check.same("without the bridge", x.steps(1), 9L + 7 + 7);
        x.run(1 + 9);
        x.run(13);
        traceIs(x, 0, 9, 1, 2, 0, 5, 3, 1);
        Check.same("with the bridge", x.steps(1), 9L + 7 + 7 + 9 + 7 + 6);
    }

    private static void promise21BridgeLeft() {
        // The bridge goes back from 12 while local 0 is below 6; with 7 it is left there, without more.
        LoopTracer x = started(1, w(LOAD, 0), w(PUSH, 1), ADD, DUP, w(STORE, 0), w(PUSH, 1), AND, w(IF, 9), w(GOTO, 0),
                w(LOAD, 0), w(PUSH, 6), LESS, w(IF, 0), w(GOTO, 0));
        x.run(12 + 9);
        Check.same("the trace", x.trace(0, 0), 9);
        x.run(12);
        guardIs(x, 0, 0, 7, 1, 5, 0, 2, 1, 0);
        x.run(9 + 12);
        traceIs(x, 0, 9, 1, 2, 0, 3, 2, 1);
        guardIs(x, 0, 0, 7, 2, 5, 0, 2, 1, 0);
        x.run(9 + 12);
        traceIs(x, 0, 9, 1, 2, 0, 5, 3, 1);
        guardIs(x, 0, 0, 7, 3, 5, 0, 2, 1, 0);
        Check.same("plain behind it", x.address(), 13);
        Check.same("nothing is recorded", x.recording(), -1);
        stepsAre("left", x, 75, 7 + 9 + 12 + 9 + 11, 5, 3, 2, 0);
    }

    private static void promise21Divisions() {
        // 60 / (local 0), counted down to 0, breaks there; the guard of DIV knows what IF asks.
        LoopTracer x = started(1, w(PUSH, 60), w(LOAD, 0), DIV, EMIT, w(LOAD, 0), w(UNLESS, 0), w(LOAD, 0), w(PUSH, 1),
                SUB, w(STORE, 0), w(LOAD, 0), w(PUSH, 7), REM, POP, w(PUSH, 9), w(LOAD, 0), REM, POP, w(GOTO, 0));
        x.run(1);
        Check.same("broken by 0", x.run(9), LoopTracer.BROKEN);
        x.setLocal(0, 6);
        x.start();
        x.run(19 * 2);
        traceIs(x, 0, 19, 2, 4, 0, 0, 0, 0);
        guardIs(x, 0, 0, 2, 0);
        guardIs(x, 0, 1, 16, 0);
        Check.same("breaks at last", x.run(1000), LoopTracer.BROKEN);
        Check.same("there", x.address(), 16);
        guardIs(x, 0, 0, 2, 0, 0, 0);
        guardIs(x, 0, 1, 16, 0, 0, 1, 0, 0, 0);
        stepsAre("broken", x, 19 * 5 + 16, 19 * 3 + 16, 4, 3, 2, 1);
        Check.same("nothing is recorded", x.recording(), -1);
        int[] cuts = {2, 3, 3, 3};
        int[] fails = {0, 0, 1, 2};
        for (int i = 0; i < cuts.length; i++) {
            x.setLocal(0, 2);
            x.start();
            x.run(1000);
            guardIs(x, 0, 1, 16, fails[i], 0, cuts[i], 0, 0, 0);
        }
        stepsAre("three cuts at most", x, 19 + 16, 19 + 16, 12, 7, 4, 3);
    }

    private static void promise22Recording() {
        LoopTracer x = started(1, oddSum(9));
        Check.same("nothing", x.recording(), -1);
        x.run(2 + 13);
        Check.same("not yet", x.recording(), -1);
        x.run(1);
        Check.same("with the instruction done next", x.recording(), 2);
        x.run(0);
        Check.same("gone on with", x.recording(), 2);
        x.run(9);
        Check.same("still", x.recording(), 2);
        x.run(1);
        Check.same("over", x.recording(), -1);
        Check.same("the trace of the even one", x.trace(2, 0), 10);
        x.run(10);
        Check.same("a bridge, from the guard on", x.recording(), 1002);
        x.run(3);
        Check.same("still the bridge", x.recording(), 1002);
        x.run(1);
        Check.same("the bridge is over", x.recording(), -1);
        Check.same("its steps", x.guard(2, 0, 2), 11);
        Check.same("no pass while it is recorded", x.steps(2), 1L);
    }

    private static void promise22Cuts() {
        // HALT cuts off what is recorded; so does start, without a cut.
        LoopTracer x = started(1, countDown(2));
        x.run(2 + 6);
        Check.same("recording", x.recording(), 2);
        x.run(6);
        Check.same("HALT is not done yet", x.recording(), 2);
        Check.same("nothing is cut yet", x.steps(5), 0L);
        x.run(1);
        Check.same("cut off before HALT", x.recording(), -1);
        Check.same("a cut", x.steps(5), 1L);
        Check.same("no heat", x.heat(2), 0);
        Check.same("no trace", x.traces(), 0);
        // A cut of a bridge is the guard's.
        LoopTracer y = started(1, countDown(4));
        y.run(1000);
        traceIs(y, 2, 6, 1, 1, 0, 2, 1, 0);
        guardIs(y, 2, 0, 7, 0, 0, 1, 0, 0, 0);
        Check.same("the heat of the address stays", y.heat(2), 2);
        // The inner loop has a trace; the outer one, cut off at its address, lets a pass begin there.
        LoopTracer z = started(2, w(PUSH, 20), w(STORE, 1), w(PUSH, 0), POP, w(PUSH, 0), POP, w(LOAD, 1), w(PUSH, 1),
                SUB, DUP, w(STORE, 1), w(IF, 6), w(GOTO, 0));
        for (int i = 0; i < 50; i++) {
            z.run(5);
        }
        z.run(4);
        Check.same("the inner trace", z.trace(6, 0), 6);
        Check.same("the outer one is recorded", z.recording(), 0);
        z.run(48);
        Check.same("with 48 steps", z.recording(), 0);
        stepsAre("no pass for want of fuel", z, 302, 0, 0, 0, 2, 0);
        z.run(6);
        stepsAre("a pass behind the cut", z, 308, 6, 1, 1, 2, 1);
    }

    private static void promise23Invalidate() {
        LoopTracer x = started(1, oddSum(41));
        for (int a : new int[] {-1, 17, 200, MIN, MAX}) {
            Check.noSuch("invalidate " + a, () -> x.invalidate(a));
        }
        Check.same("there was none", x.invalidate(2), false);
        x.run(2 + 14 + 3);
        Check.same("recording", x.recording(), 2);
        Check.same("another HEAD", x.invalidate(3), false);
        Check.same("goes on", x.recording(), 2);
        Check.same("no trace yet", x.invalidate(2), false);
        Check.same("is no more", x.recording(), -1);
        Check.same("no heat", x.heat(2), 0);
        Check.same("no cut", x.steps(5), 0L);
        x.run(100);
        Check.same("with a bridge", x.trace(2, 6), 1);
        Check.same("there was one", x.invalidate(2), true);
        Check.same("it is gone", x.traces(), 0);
        Check.noSuch("its steps too", () -> x.trace(2, 0));
        Check.noSuch("its guards too", () -> x.guard(2, 0, 0));
        Check.same("but once", x.invalidate(2), false);
        x.run(100000);
        Check.same("what plain steps give", x.local(1), 441);
        // Made again it has nothing of the old one.
        LoopTracer y = started(2, oddSum(99));
        y.run(300);
        Check.same("bridge", y.trace(2, 6), 1);
        y.invalidate(2);
        y.run(24 * 2);
        traceIs(y, 2, y.trace(2, 0), 2, y.trace(2, 2), 0, y.trace(2, 4), y.trace(2, 5), 0);
        Check.same("no old passes", y.trace(2, 4) <= 2, true);
        // A bridge that is recorded goes with its trace.
        LoopTracer z = started(1, oddSum(9));
        z.run(2 + 14 + 10 + 10);
        Check.same("a bridge", z.recording(), 1002);
        Check.same("with its trace", z.invalidate(2), true);
        Check.same("no more", z.recording(), -1);
        Check.same("that is no cut", z.steps(5), 0L);
    }

    private static void promise24Reset() {
        LoopTracer x = started(1, oddSum(41));
        x.run(200);
        x.start();
        x.run(60);
        x.reset();
        Check.same("state", x.state(), LoopTracer.LOADING);
        Check.same("address", x.address(), 0);
        Check.same("place", x.place(), -1);
        Check.same("height", x.height(), 0);
        Check.same("emitted", x.emitted(), 0);
        Check.same("traces", x.traces(), 0);
        Check.same("recording", x.recording(), -1);
        stepsAre("reset", x, 0, 0, 0, 0, 0, 0);
        for (int i = 0; i < 16; i++) {
            Check.same("local", x.local(i), 0);
        }
        Check.noSuch("no words", () -> x.heat(0));
        Check.noSuch("one word too far", () -> x.poke(1, 0));
        Check.same("no code", x.verify(), 6);
        Check.same("its place", x.place(), 0);
        x.reset();
        Check.same("no place", x.place(), -1);
        load(x, oddSum(41));
        x.verify();
        Check.same("no heat", x.heat(2), 0);
        x.start();
        x.run(2 + 14);
        Check.same("the threshold stays", x.recording(), 2);
        x.run(100000);
        Check.same("runs as at first", x.local(1), 441);
        // Cuts go too: what was cold is not.
        LoopTracer z = started(1, countDown(2));
        for (int i = 0; i < 4; i++) {
            z.run(100);
            z.start();
        }
        Check.same("cold after three cuts", z.steps(4), 3L);
        z.reset();
        load(z, countDown(2));
        z.verify();
        z.start();
        z.run(100);
        Check.same("cold no more", z.steps(4), 1L);
        LoopTracer y = started(3, w(PUSH, 3), w(PUSH, 4), DUP, EMIT, POKE, w(PUSH, 1), w(GOTO, 6));
        y.run(8);
        y.reset();
        Check.same("memory", y.memory(3), 0);
        Check.same("height again", y.height(), 0);
        Check.noSuch("output", () -> y.output(0));
    }

    private static void two(int op, int x, int y, int due) {
        LoopTracer t = loaded(3, w(LOAD, 0), w(LOAD, 1), op, EMIT, HALT);
        t.verify();
        t.setLocal(0, x);
        t.setLocal(1, y);
        t.start();
        t.run(10);
        Check.is(x + " op " + op + " " + y, () -> t.output(0), due);
    }

    private static void termsInstructions() {
        two(ADD, MAX, 1, MIN);
        two(SUB, MIN, 1, MAX);
        two(MUL, 65536, 65537, 65536);
        two(DIV, -7, 2, -3);
        two(DIV, MIN, -1, MIN);
        two(REM, -7, 2, -1);
        two(REM, 7, -2, 1);
        two(REM, MIN, -1, 0);
        two(AND, -4, 7, 4);
        two(OR, 8, 3, 11);
        two(XOR, 6, 3, 5);
        two(SHL, 1, 33, 2);
        two(SHL, 3, 31, MIN);
        two(SHR, -8, 1, -4);
        two(SHR, -8, -31, -4);
        two(LESS, MIN, MAX, 1);
        two(LESS, 4, 4, 0);
        two(SAME, 4, 4, 1);
        two(SAME, 4, 5, 0);
        LoopTracer x = started(3, w(PUSH, 5), NEG, EMIT, w(PUSH, 5), NOT, EMIT, w(PUSH, 0), NOT, EMIT, w(PUSH, 1),
                w(PUSH, 2), SWAP, EMIT, EMIT, w(PUSH, -33554432), EMIT, HALT);
        x.run(100);
        int[] due = {-5, 0, 1, 1, 2, -33554432};
        for (int i = 0; i < due.length; i++) {
            Check.same("output " + i, x.output(i), due[i]);
        }
        // Arguments of other OPs, and of HALT, are of no matter.
        LoopTracer y = started(3, w(PUSH, 2), w(DUP, -9), w(ADD, 77), w(EMIT, 200), w(HALT, 5));
        Check.same("halts", y.run(100), LoopTracer.HALTED);
        Check.same("all the same", y.output(0), 4);
    }

    private static void termsLimitsOfBridges() {
        // Six branches on bits of a counter: six guards fail often, four get bridges.
        int[] words = new int[64];
        int n = 0;
        for (int bit = 0; bit < 6; bit++) {
            words[n++] = w(LOAD, 0);
            words[n++] = w(PUSH, 1 << bit);
            words[n++] = AND;
            words[n] = w(IF, n + 2);
            n++;
            words[n] = w(GOTO, n + 1);
            n++;
        }
        words[n++] = w(LOAD, 0);
        words[n++] = w(PUSH, 1);
        words[n++] = ADD;
        words[n++] = w(STORE, 0);
        words[n++] = w(GOTO, 0);
        LoopTracer x = started(3, java.util.Arrays.copyOf(words, n));
        x.run(20000);
        Check.same("guards", x.trace(0, 1), 6);
        Check.same("four bridges", x.trace(0, 6), 4);
        int without = 0;
        for (int k = 0; k < 6; k++) {
            without += x.guard(0, k, 2) == 0 ? 1 : 0;
        }
        Check.same("two guards without", without, 2);
        Check.same("recordings", x.steps(4), 5L);
    }

    private static void exampleOfReadme() {
        LoopTracer x = loaded(2, w(PUSH, 5), w(STORE, 0), w(LOAD, 0), EMIT, w(LOAD, 0), w(PUSH, 1), SUB, DUP, w(STORE, 0),
                w(IF, 2), HALT);
        Check.same("README verify", x.verify(), 0);
        Check.same("README READY", x.state(), LoopTracer.READY);
        x.start();
        Check.same("README run", x.run(1000), LoopTracer.HALTED);
        Check.same("README output", x.output(0), 5);
        Check.same("README emitted", x.emitted(), 5);
        Check.same("README steps", x.steps(0), 43L);
        Check.same("README steps in passes", x.steps(1), 15L);
        Check.same("README trace", x.trace(2, 0), 8);
        Check.same("README guards", x.trace(2, 1), 1);
        Check.same("README guard", x.guard(2, 0, 0), 9);
    }
}
