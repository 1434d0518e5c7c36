/** Promises 1 to 24: a test of its own for each sentence that names an edge, and for each call that is refused. */
public final class EdgesOfCallsTest extends Codes {
    public static void main(String[] args) {
        promise1NewObject();
        promise2Poke();
        promise3Verify();
        promise4Place();
        promise5SetLocal();
        promise6Start();
        promise7Run();
        promise8State();
        promise9Address();
        promise10Local();
        promise11Memory();
        promise12Height();
        promise13Stack();
        promise14Emitted();
        promise15Output();
        promise16Steps();
        promise17Heat();
        promise18Traces();
        promise19TraceAt();
        promise20Trace();
        promise21Guard();
        promise22Recording();
        promise23Invalidate();
        promise24Reset();
        allCalls();
        Check.finish("EdgesOfCallsTest");
    }

    /** A machine in each state; its code is HALT, or for BROKEN a division by 0. */
    private static LoopTracer inState(int state) {
        LoopTracer x = state == LoopTracer.BROKEN ? loaded(3, w(PUSH, 5), w(PUSH, 0), DIV, HALT) : loaded(3, HALT);
        if (state >= LoopTracer.READY) {
            x.verify();
        }
        if (state >= LoopTracer.RUNNING) {
            x.start();
        }
        if (state >= LoopTracer.HALTED) {
            x.run(9);
        }
        Check.same("state", x.state(), state);
        return x;
    }

    private static Object start(LoopTracer x) {
        x.start();
        return "started";
    }

    private static void isNew(LoopTracer x) {
        Check.same("state", x.state(), LoopTracer.LOADING);
        Check.same("address", x.address(), 0);
        Check.same("place", x.place(), -1);
        Check.same("height", x.height(), 0);
        Check.noSuch("stack", () -> x.stack(0));
        Check.same("emitted", x.emitted(), 0);
        Check.noSuch("output", () -> x.output(0));
        Check.same("traces", x.traces(), 0);
        Check.noSuch("traceAt", () -> x.traceAt(0));
        Check.same("recording", x.recording(), -1);
        stepsAre("none", x, 0, 0, 0, 0, 0, 0);
        for (int i = 0; i < 16; i++) {
            Check.same("local", x.local(i), 0);
        }
        for (int i = 0; i < 32; i++) {
            Check.same("memory", x.memory(i), 0);
        }
        Check.noSuch("no word has heat", () -> x.heat(0));
        Check.noSuch("no word is invalidated", () -> x.invalidate(0));
        Check.noSuch("no trace", () -> x.trace(0, 0));
        Check.noSuch("no guard", () -> x.guard(0, 0, 0));
        Check.noSuch("no word 1", () -> x.poke(1, HALT));
    }

    private static void hotAfter(int threshold, int due) {
        LoopTracer x = started(threshold, w(GOTO, 0));
        x.run(due - 1);
        Check.same("threshold " + threshold + ", one less", x.recording(), -1);
        x.run(1);
        Check.same("threshold " + threshold, x.recording(), 0);
    }

    private static void promise1NewObject() {
        Check.test("1: A machine without code, LOADING", () -> {
            isNew(new LoopTracer(1));
            isNew(new LoopTracer(0));
            Check.same("no code", new LoopTracer(7).verify(), 6);
        });
        Check.test("1: THRESHOLD 1 .. 1000", () -> {
            for (int threshold : new int[] {1, 2, 3, 4, 999, 1000}) {
                hotAfter(threshold, threshold);
            }
        });
        Check.test("1: (3 for another one): too small", () -> {
            for (int threshold : new int[] {0, -1, -1000, MIN}) {
                hotAfter(threshold, 3);
            }
        });
        Check.test("1: (3 for another one): too large", () -> {
            for (int threshold : new int[] {1001, 1002, MAX}) {
                hotAfter(threshold, 3);
            }
        });
    }

    private static void promise2Poke() {
        Check.test("2: A word behind all: how many there are", () -> {
            LoopTracer x = new LoopTracer(3);
            for (int a = 0; a < 200; a++) {
                Check.same("poke", x.poke(a, HALT), a + 1);
            }
        });
        Check.test("2: A word in the place of one that there is: how many there are", () -> {
            LoopTracer x = loaded(3, 27, HALT, 27);
            Check.same("the first", x.poke(0, HALT), 3);
            Check.same("the last", x.poke(2, HALT), 3);
            Check.same("both are in place", x.verify(), 0);
        });
        Check.test("2: IndexOutOfBoundsException: another address", () -> {
            LoopTracer x = new LoopTracer(3);
            for (int a : new int[] {-1, 1, 2, 199, 200, MIN, MAX}) {
                Check.noSuch("without words, at " + a, () -> x.poke(a, HALT));
            }
            load(x, 27, 27);
            for (int a : new int[] {-1, 3, 199, 200, MIN, MAX}) {
                Check.noSuch("with two words, at " + a, () -> x.poke(a, HALT));
            }
            Check.same("a refused word is none", x.poke(2, HALT), 3);
        });
        Check.test("2: IndexOutOfBoundsException: it would be the 201st", () -> {
            LoopTracer x = loaded(3, many(200, HALT));
            Check.noSuch("the 201st", () -> x.poke(200, HALT));
            Check.noSuch("the 202nd", () -> x.poke(201, HALT));
            Check.same("the 200th", x.poke(199, HALT), 200);
            Check.noSuch("no word 200", () -> x.heat(200));
        });
        Check.test("2: IllegalStateException when it is not LOADING", () -> {
            for (int state = LoopTracer.READY; state <= LoopTracer.BROKEN; state++) {
                LoopTracer x = inState(state);
                int behindAll = state == LoopTracer.BROKEN ? 4 : 1;
                Check.notNow("in place, state " + state, () -> x.poke(0, 27));
                Check.notNow("behind all, state " + state, () -> x.poke(behindAll, 27));
                Check.same("nothing is poked", x.verify(), 0);
            }
            Check.same("LOADING", inState(LoopTracer.LOADING).poke(1, 27), 2);
        });
        Check.test("2: a wrong address when it is not LOADING: what is named first", () -> {
            for (int state = LoopTracer.READY; state <= LoopTracer.BROKEN; state++) {
                LoopTracer x = inState(state);
                Check.noSuch("state " + state, () -> x.poke(-1, HALT));
                Check.noSuch("state " + state, () -> x.poke(9, HALT));
            }
        });
        Check.test("2: a fault leaves it LOADING, and words may be poked", () -> {
            LoopTracer x = loaded(3, 27);
            x.verify();
            Check.same("mended", x.poke(0, HALT), 1);
        });
    }

    private static void promise3Verify() {
        Check.test("3: The code is VERIFIED: 0, and a machine that was LOADING is READY", () -> {
            LoopTracer x = loaded(3, HALT);
            Check.same("verify", x.verify(), 0);
            Check.same("READY", x.state(), LoopTracer.READY);
            Check.same("verify again", x.verify(), 0);
            Check.same("still READY", x.state(), LoopTracer.READY);
        });
        Check.test("3: a machine that was not LOADING stays as it is", () -> {
            for (int state = LoopTracer.READY; state <= LoopTracer.BROKEN; state++) {
                LoopTracer x = inState(state);
                int address = x.address();
                Check.same("verify", x.verify(), 0);
                Check.same("state", x.state(), state);
                Check.same("address", x.address(), address);
            }
        });
        Check.test("3: or the fault", () -> {
            int[][] codes = {{27}, {w(LOAD, 16)}, {POP}, join(many(16, w(PUSH, 0)), new int[] {DUP, HALT}),
                {w(PUSH, 0), w(GOTO, 0)}, {w(PUSH, 0)}};
            for (int i = 0; i < codes.length; i++) {
                LoopTracer x = loaded(3, codes[i]);
                Check.same("fault", x.verify(), i + 1);
                Check.same("LOADING", x.state(), LoopTracer.LOADING);
                Check.same("fault again", x.verify(), i + 1);
            }
        });
    }

    private static void promise4Place() {
        Check.test("4: -1 before any", () -> {
            Check.same("new", new LoopTracer(3).place(), -1);
            Check.same("with a fault", loaded(3, 27).place(), -1);
        });
        Check.test("4: The address of the fault that the latest verify() found", () -> {
            LoopTracer x = loaded(3, HALT, 27);
            x.verify();
            Check.same("at 1", x.place(), 1);
            x.poke(0, 27);
            Check.same("not yet", x.place(), 1);
            x.verify();
            Check.same("at 0", x.place(), 0);
            LoopTracer y = loaded(3, join(many(199, HALT), new int[] {63}));
            y.verify();
            Check.same("at the last word", y.place(), 199);
            LoopTracer z = new LoopTracer(3);
            z.verify();
            Check.same("at 0 of no words", z.place(), 0);
        });
        Check.test("4: -1 when it found none", () -> {
            LoopTracer x = loaded(3, 27);
            x.verify();
            x.poke(0, HALT);
            x.verify();
            Check.same("none", x.place(), -1);
        });
    }

    private static void promise5SetLocal() {
        Check.test("5: A local has a value: what it had (0 at first)", () -> {
            LoopTracer x = inState(LoopTracer.READY);
            for (int i = 0; i < 16; i++) {
                Check.same("at first", x.setLocal(i, MIN + i), 0);
            }
            for (int i = 0; i < 16; i++) {
                Check.same("then", x.setLocal(i, MAX), MIN + i);
                Check.same("it has it", x.local(i), MAX);
            }
        });
        Check.test("5: IndexOutOfBoundsException", () -> {
            LoopTracer x = inState(LoopTracer.READY);
            for (int i : new int[] {-1, 16, 17, MIN, MAX}) {
                Check.noSuch("local " + i, () -> x.setLocal(i, 1));
            }
            for (int i = 0; i < 16; i++) {
                Check.same("none is set", x.local(i), 0);
            }
        });
        Check.test("5: IllegalStateException when it is LOADING", () -> {
            LoopTracer x = inState(LoopTracer.LOADING);
            Check.notNow("local 0", () -> x.setLocal(0, 1));
            Check.notNow("local 15", () -> x.setLocal(15, 1));
            Check.same("not set", x.local(0), 0);
            Check.noSuch("what is named first", () -> x.setLocal(16, 1));
        });
        Check.test("5: IllegalStateException when it is RUNNING", () -> {
            LoopTracer x = inState(LoopTracer.RUNNING);
            Check.notNow("local 0", () -> x.setLocal(0, 1));
            Check.notNow("local 15", () -> x.setLocal(15, 1));
            Check.same("not set", x.local(0), 0);
            Check.noSuch("what is named first", () -> x.setLocal(-1, 1));
        });
        Check.test("5: it is not refused when it is READY, HALTED or BROKEN", () -> {
            for (int state : new int[] {LoopTracer.READY, LoopTracer.HALTED, LoopTracer.BROKEN}) {
                LoopTracer x = inState(state);
                Check.same("state " + state, x.setLocal(3, 1), 0);
                Check.same("state " + state, x.setLocal(3, 2), 1);
                Check.same("it stays", x.state(), state);
            }
        });
    }

    /** Puts 8 in place 3, puts out 6, adds 1 to local 1, leaves 9 on the stack and goes round at 10 for ever. */
    private static final int[] DOES_ALL = {w(PUSH, 3), w(PUSH, 8), POKE, w(PUSH, 6), EMIT, w(LOAD, 1), w(PUSH, 1), ADD,
        w(STORE, 1), w(PUSH, 9), w(GOTO, 11), w(GOTO, 10)};

    private static void promise6Start() {
        Check.test("6: The machine is RUNNING from address 0 on", () -> {
            for (int state = LoopTracer.READY; state <= LoopTracer.BROKEN; state++) {
                LoopTracer x = inState(state);
                x.start();
                Check.same("state", x.state(), LoopTracer.RUNNING);
                Check.same("address", x.address(), 0);
                Check.same("steps", x.steps(0), 0L);
            }
        });
        Check.test("6: with an empty stack and output and a memory of 0s", () -> {
            LoopTracer x = started(9, DOES_ALL);
            x.run(10);
            Check.same("stack", x.stack(0), 9);
            Check.same("output", x.output(0), 6);
            Check.same("memory", x.memory(3), 8);
            x.start();
            Check.same("no stack", x.height(), 0);
            Check.noSuch("no int", () -> x.stack(0));
            Check.same("no output", x.emitted(), 0);
            Check.noSuch("no number", () -> x.output(0));
            for (int i = 0; i < 32; i++) {
                Check.same("memory", x.memory(i), 0);
            }
        });
        Check.test("6: locals, heat, traces stay", () -> {
            LoopTracer x = started(1, DOES_ALL);
            x.run(10 + 2 + 2 + 2);
            traceIs(x, 10, 2, 0, 0, 0, 1, 1, 0);
            x.start();
            Check.same("local", x.local(1), 1);
            Check.same("heat", x.heat(10), 2);
            traceIs(x, 10, 2, 0, 0, 0, 1, 1, 0);
            x.run(10 + 2);
            traceIs(x, 10, 2, 0, 0, 0, 2, 2, 0);
            Check.same("the local goes on", x.local(1), 2);
        });
        Check.test("6: bridges, FAILS and CUTS stay with their traces", () -> {
            LoopTracer x = started(1, byTurns(3));
            x.run(8 + 6 + 8);
            x.start();
            guardIs(x, 0, 0, 4, 1, 4, 0, 1, 0, 0);
            LoopTracer y = started(1, countDown(4));
            y.run(1000);
            y.start();
            guardIs(y, 2, 0, 7, 0, 0, 1, 0, 0, 0);
            LoopTracer z = started(1, countDown(2));
            for (int i = 0; i < 4; i++) {
                z.run(1000);
                z.start();
            }
            Check.same("cold", z.steps(4), 3L);
        });
        Check.test("6: what is being recorded is no more", () -> {
            LoopTracer x = started(1, DOES_ALL);
            x.run(13);
            Check.same("recording", x.recording(), 10);
            x.start();
            Check.same("no more", x.recording(), -1);
            Check.same("no trace", x.traces(), 0);
            Check.same("it is not cut off", x.steps(5), 0L);
            Check.same("heat stays", x.heat(10), 1);
            LoopTracer y = started(1, byTurns(30));
            y.run(35 + 6 + 10);
            Check.same("a bridge", y.recording(), 1000);
            y.start();
            Check.same("no more", y.recording(), -1);
            guardIs(y, 0, 0, 4, 1, 0, 0);
        });
        Check.test("6: IllegalStateException when it is LOADING", () -> {
            LoopTracer x = inState(LoopTracer.LOADING);
            Check.notNow("with code", () -> start(x));
            Check.notNow("without code", () -> start(new LoopTracer(3)));
            LoopTracer y = loaded(3, 27);
            y.verify();
            Check.notNow("with a fault", () -> start(y));
            Check.same("still LOADING", y.state(), LoopTracer.LOADING);
        });
    }

    private static void promise7Run() {
        Check.test("7: RUNNING, so many steps are done", () -> {
            LoopTracer x = started(2, oddSum(1000));
            long done = 0;
            for (int fuel : new int[] {1, 2, 3, 5, 8, 13, 21, 34, 55, 89, 144}) {
                Check.same("state", x.run(fuel), LoopTracer.RUNNING);
                done += fuel;
                Check.same("steps", x.steps(0), done);
            }
        });
        Check.test("7: 0 steps", () -> {
            LoopTracer x = started(3, w(PUSH, 1), w(PUSH, 0), DIV, HALT);
            Check.same("state", x.run(0), LoopTracer.RUNNING);
            Check.same("none", x.steps(0), 0L);
            x.run(2);
            Check.same("before what breaks", x.run(0), LoopTracer.RUNNING);
            LoopTracer y = started(3, HALT);
            Check.same("before HALT", y.run(0), LoopTracer.RUNNING);
        });
        Check.test("7: 100000 steps", () -> {
            LoopTracer x = started(3, ring(7));
            Check.same("state", x.run(100000), LoopTracer.RUNNING);
            Check.same("all", x.steps(0), 100000L);
            LoopTracer y = started(3, ring(60));
            Check.same("plainly", y.run(100000), LoopTracer.RUNNING);
            stepsAre("all", y, 100000, 0);
        });
        Check.test("7: or fewer, if it is HALTED by that: its state then", () -> {
            LoopTracer x = started(3, w(PUSH, 1), HALT);
            Check.same("state", x.run(100000), LoopTracer.HALTED);
            Check.same("two steps", x.steps(0), 2L);
        });
        Check.test("7: or fewer, if it is BROKEN by that: its state then", () -> {
            LoopTracer x = started(3, w(PUSH, 1), w(PUSH, 0), REM, HALT);
            Check.same("not yet", x.run(2), LoopTracer.RUNNING);
            Check.same("state", x.run(1), LoopTracer.BROKEN);
            Check.same("two steps", x.steps(0), 2L);
        });
        Check.test("7: IllegalArgumentException: too small", () -> {
            LoopTracer x = started(3, ring(7));
            for (int fuel : new int[] {-1, -100000, MIN}) {
                Check.notSo("fuel " + fuel, () -> x.run(fuel));
            }
            Check.same("no step", x.steps(0), 0L);
        });
        Check.test("7: IllegalArgumentException: too large", () -> {
            LoopTracer x = started(3, ring(7));
            for (int fuel : new int[] {100001, 200000, MAX}) {
                Check.notSo("fuel " + fuel, () -> x.run(fuel));
            }
            Check.same("no step", x.steps(0), 0L);
        });
        Check.test("7: IllegalStateException when it is not RUNNING", () -> {
            int[] states = {LoopTracer.LOADING, LoopTracer.READY, LoopTracer.HALTED, LoopTracer.BROKEN};
            for (int state : states) {
                LoopTracer x = inState(state);
                long before = x.steps(0);
                Check.notNow("fuel 0, state " + state, () -> x.run(0));
                Check.notNow("fuel 1, state " + state, () -> x.run(1));
                Check.notNow("fuel 100000, state " + state, () -> x.run(100000));
                Check.same("no step", x.steps(0), before);
                Check.same("state", x.state(), state);
                Check.notSo("what is named first", () -> x.run(-1));
                Check.notSo("what is named first", () -> x.run(100001));
            }
        });
    }

    private static void promise8State() {
        Check.test("8: The machine's state", () -> {
            for (int state = LoopTracer.LOADING; state <= LoopTracer.BROKEN; state++) {
                Check.same("state", inState(state).state(), state);
            }
        });
    }

    private static void promise9Address() {
        Check.test("9: The address at which it is", () -> {
            LoopTracer x = started(3, w(GOTO, 3), HALT, w(GOTO, 1), w(PUSH, 0), w(UNLESS, 2), HALT);
            for (int due : new int[] {3, 4, 2, 1}) {
                x.run(1);
                Check.same("address", x.address(), due);
            }
            x.run(1);
            Check.same("HALT goes nowhere", x.address(), 1);
            Check.same("where it is BROKEN", inState(LoopTracer.BROKEN).address(), 2);
        });
        Check.test("9: (0 before any start())", () -> {
            Check.same("new", new LoopTracer(3).address(), 0);
            Check.same("LOADING", inState(LoopTracer.LOADING).address(), 0);
            Check.same("READY", inState(LoopTracer.READY).address(), 0);
        });
    }

    private static void promise10Local() {
        Check.test("10: A local's value", () -> {
            LoopTracer x = inState(LoopTracer.READY);
            x.setLocal(0, MIN);
            x.setLocal(15, MAX);
            Check.same("local 0", x.local(0), MIN);
            Check.same("local 1", x.local(1), 0);
            Check.same("local 15", x.local(15), MAX);
            Check.same("of a new machine", new LoopTracer(3).local(15), 0);
        });
        Check.test("10: IndexOutOfBoundsException", () -> {
            for (int state = LoopTracer.LOADING; state <= LoopTracer.BROKEN; state++) {
                LoopTracer x = inState(state);
                for (int i : new int[] {-1, 16, MIN, MAX}) {
                    Check.noSuch("local " + i, () -> x.local(i));
                }
            }
        });
    }

    private static void promise11Memory() {
        Check.test("11: The memory at a place 0 .. 31", () -> {
            LoopTracer x = started(3, w(PUSH, 0), w(PUSH, 5), POKE, w(PUSH, 31), w(PUSH, 6), POKE, HALT);
            Check.same("0 at first", x.memory(31), 0);
            x.run(9);
            Check.same("place 0", x.memory(0), 5);
            Check.same("place 1", x.memory(1), 0);
            Check.same("place 31", x.memory(31), 6);
        });
        Check.test("11: IndexOutOfBoundsException", () -> {
            for (int state = LoopTracer.LOADING; state <= LoopTracer.BROKEN; state++) {
                LoopTracer x = inState(state);
                for (int i : new int[] {-1, 32, MIN, MAX}) {
                    Check.noSuch("memory " + i, () -> x.memory(i));
                }
            }
        });
    }

    private static void promise12Height() {
        Check.test("12: How many ints are on the stack: none", () -> {
            Check.same("new", new LoopTracer(3).height(), 0);
            LoopTracer x = started(3, w(PUSH, 1), POP, HALT);
            Check.same("started", x.height(), 0);
            x.run(2);
            Check.same("popped", x.height(), 0);
        });
        Check.test("12: How many ints are on the stack: up to 16", () -> {
            LoopTracer x = started(3, join(many(16, w(PUSH, 1)), new int[] {HALT}));
            for (int height = 1; height <= 16; height++) {
                x.run(1);
                Check.same("height", x.height(), height);
            }
            x.run(1);
            Check.same("behind HALT", x.height(), 16);
        });
    }

    private static void promise13Stack() {
        Check.test("13: Int i of the stack, 0 the lowest one", () -> {
            LoopTracer x = started(3, w(PUSH, 4), w(PUSH, 5), w(PUSH, 6), HALT);
            x.run(3);
            Check.same("lowest", x.stack(0), 4);
            Check.same("midst", x.stack(1), 5);
            Check.same("topmost", x.stack(2), 6);
        });
        Check.test("13: IndexOutOfBoundsException: empty", () -> {
            for (int i : new int[] {-1, 0, 15, 16, MIN, MAX}) {
                Check.noSuch("new " + i, () -> new LoopTracer(3).stack(i));
                Check.noSuch("started " + i, () -> started(3, HALT).stack(i));
            }
        });
        Check.test("13: IndexOutOfBoundsException: above the topmost, below the lowest", () -> {
            LoopTracer x = started(3, w(PUSH, 4), w(PUSH, 5), POP, HALT);
            x.run(3);
            for (int i : new int[] {-1, 1, 2, 16, MIN, MAX}) {
                Check.noSuch("stack " + i, () -> x.stack(i));
            }
        });
        Check.test("13: IndexOutOfBoundsException: full", () -> {
            LoopTracer x = started(3, join(many(16, w(PUSH, 1)), new int[] {HALT}));
            x.run(16);
            Check.same("the last", x.stack(15), 1);
            for (int i : new int[] {-1, 16, 17, MIN, MAX}) {
                Check.noSuch("stack " + i, () -> x.stack(i));
            }
        });
    }

    /** Puts out 1, 2, 3, .. for ever, with 7 steps for each. */
    private static final int[] COUNTS = {w(LOAD, 0), w(PUSH, 1), ADD, DUP, w(STORE, 0), EMIT, w(GOTO, 0)};

    private static void promise14Emitted() {
        Check.test("14: How many numbers were put out since start(): none", () -> {
            Check.same("new", new LoopTracer(3).emitted(), 0);
            Check.same("started", started(3, COUNTS).emitted(), 0);
        });
        Check.test("14: How many numbers were put out since start()", () -> {
            LoopTracer x = started(3, COUNTS);
            x.run(5);
            Check.same("not yet", x.emitted(), 0);
            x.run(1);
            Check.same("one", x.emitted(), 1);
            x.run(1 + 7 * 199);
            Check.same("200", x.emitted(), 200);
            x.run(7);
            Check.same("more than are kept", x.emitted(), 201);
            x.run(98000);
            Check.same("far more", x.emitted(), 14201);
            x.start();
            Check.same("since start()", x.emitted(), 0);
            x.run(7);
            Check.same("one since start()", x.emitted(), 1);
        });
    }

    private static void promise15Output() {
        Check.test("15: Number i that was put out", () -> {
            LoopTracer x = started(3, COUNTS);
            x.run(7 * 200);
            for (int i = 0; i < 200; i++) {
                Check.same("output " + i, x.output(i), i + 1);
            }
        });
        Check.test("15: of the latest 200", () -> {
            LoopTracer x = started(3, COUNTS);
            for (int more : new int[] {201, 202, 399, 400, 401, 1000}) {
                x.run(7 * (more - x.emitted()));
                Check.same("emitted", x.emitted(), more);
                Check.noSuch("the one before them", () -> x.output(more - 201));
                Check.noSuch("the first", () -> x.output(0));
                Check.same("the first of them", x.output(more - 200), more - 199);
                Check.same("the last of them", x.output(more - 1), more);
                Check.noSuch("the next", () -> x.output(more));
            }
        });
        Check.test("15: IndexOutOfBoundsException: empty", () -> {
            for (int i : new int[] {-1, 0, 1, 199, 200, MIN, MAX}) {
                Check.noSuch("new " + i, () -> new LoopTracer(3).output(i));
                Check.noSuch("started " + i, () -> started(3, COUNTS).output(i));
            }
            LoopTracer x = started(3, COUNTS);
            x.run(700);
            x.start();
            Check.noSuch("started again", () -> x.output(0));
        });
        Check.test("15: IndexOutOfBoundsException: below the first, behind the last", () -> {
            LoopTracer x = started(3, COUNTS);
            x.run(7 * 3);
            for (int i : new int[] {-1, 3, 4, 199, 200, MIN, MAX}) {
                Check.noSuch("output " + i, () -> x.output(i));
            }
        });
    }

    private static void promise16Steps() {
        Check.test("16: Steps since start(): all (what = 0), those in passes and bridges (1)", () -> {
            LoopTracer x = started(1, byTurns(3));
            x.run(8 + 6 + 8 + 6 + 8);
            stepsAre("rounds", x, 36, 4 + 6 + 8);
            x.start();
            stepsAre("since start()", x, 0, 0);
            x.run(6);
            stepsAre("from then on", x, 6, 6);
        });
        Check.test("16: since the machine was made: passes that began (2), that came round (3)", () -> {
            LoopTracer x = started(2, countDown(6));
            x.run(1000);
            stepsAre("halted", x, 39, 17, 3, 2);
            x.start();
            stepsAre("they stay", x, 0, 0, 3, 2);
        });
        Check.test("16: since the machine was made: recordings that began (4), that were cut off (5)", () -> {
            LoopTracer x = started(1, countDown(2));
            x.run(8);
            stepsAre("begun", x, 8, 0, 0, 0, 1, 0);
            x.run(1000);
            stepsAre("cut off", x, 15, 0, 0, 0, 1, 1);
            x.start();
            stepsAre("they stay", x, 0, 0, 0, 0, 1, 1);
            LoopTracer y = started(1, countDown(4));
            y.run(1000);
            stepsAre("a bridge's too", y, 27, 11, 2, 1, 2, 1);
        });
        Check.test("16: passes of all traces, also of those that went", () -> {
            LoopTracer x = started(1, ring(5));
            x.run(20);
            stepsAre("two rounds", x, 20, 10, 2, 2, 1, 0);
            x.invalidate(0);
            stepsAre("all the same", x, 20, 10, 2, 2, 1, 0);
        });
        Check.test("16: IndexOutOfBoundsException for another what", () -> {
            for (int state = LoopTracer.LOADING; state <= LoopTracer.BROKEN; state++) {
                LoopTracer x = inState(state);
                for (int what : new int[] {-1, 6, 7, MIN, MAX}) {
                    Check.noSuch("steps " + what, () -> x.steps(what));
                }
            }
        });
    }

    private static void promise17Heat() {
        Check.test("17: The heat of an address of the code", () -> {
            LoopTracer x = started(3, ring(2));
            Check.same("none", x.heat(0), 0);
            x.run(2);
            Check.same("one", x.heat(0), 1);
            Check.same("of the last word", x.heat(1), 0);
            Check.same("before it is verified", loaded(3, 27).heat(0), 0);
            Check.same("of the 200th word", loaded(3, many(200, HALT)).heat(199), 0);
        });
        Check.test("17: IndexOutOfBoundsException: no code", () -> {
            for (int a : new int[] {-1, 0, 1, 199, 200, MIN, MAX}) {
                Check.noSuch("heat " + a, () -> new LoopTracer(3).heat(a));
            }
        });
        Check.test("17: IndexOutOfBoundsException: no address of the code", () -> {
            LoopTracer x = started(3, ring(2));
            for (int a : new int[] {-1, 2, 3, 199, 200, MIN, MAX}) {
                Check.noSuch("heat " + a, () -> x.heat(a));
            }
            LoopTracer y = loaded(3, many(200, HALT));
            for (int a : new int[] {-1, 200, 201}) {
                Check.noSuch("heat " + a, () -> y.heat(a));
            }
        });
    }

    private static void promise18Traces() {
        Check.test("18: How many traces there are: none", () -> {
            Check.same("new", new LoopTracer(3).traces(), 0);
            LoopTracer x = started(1, ring(2));
            x.run(3);
            Check.same("while it is recorded", x.traces(), 0);
        });
        Check.test("18: How many traces there are: up to 16", () -> {
            LoopTracer x = started(2, loops(17));
            for (int k = 0; k <= 16; k++) {
                Check.same("traces", x.traces(), k);
                x.run(26);
            }
            Check.same("full", x.traces(), 16);
        });
        Check.test("18: a bridge is no trace", () -> {
            LoopTracer x = started(1, byTurns(3));
            x.run(8 + 6 + 8);
            Check.same("a bridge", x.trace(0, 6), 1);
            Check.same("one trace", x.traces(), 1);
        });
    }

    private static void promise19TraceAt() {
        Check.test("19: The address of trace i, by addresses", () -> {
            // The trace at 1 is made before the one at 0.
            LoopTracer x = started(1, w(GOTO, 2), w(GOTO, 0), w(GOTO, 1));
            x.run(5);
            Check.same("the only one", x.traceAt(0), 1);
            x.run(1);
            x.run(3);
            Check.same("the first", x.traceAt(0), 0);
            Check.same("the second", x.traceAt(1), 1);
            LoopTracer y = started(2, loops(17));
            y.run(100000);
            for (int i = 0; i < 16; i++) {
                Check.same("full", y.traceAt(i), 8 * i + 2);
            }
            // At the last address that there can be.
            LoopTracer z = started(1, jumpTo199());
            z.run(3);
            Check.same("199", z.traceAt(0), 199);
        });
        Check.test("19: IndexOutOfBoundsException: none", () -> {
            for (int i : new int[] {-1, 0, 1, 15, 16, MIN, MAX}) {
                Check.noSuch("traceAt " + i, () -> new LoopTracer(3).traceAt(i));
            }
        });
        Check.test("19: IndexOutOfBoundsException: another one", () -> {
            LoopTracer x = started(1, ring(2));
            x.run(4);
            for (int i : new int[] {-1, 1, 2, 16, MIN, MAX}) {
                Check.noSuch("traceAt " + i, () -> x.traceAt(i));
            }
        });
        Check.test("19: IndexOutOfBoundsException: full", () -> {
            LoopTracer x = started(2, loops(17));
            x.run(100000);
            for (int i : new int[] {-1, 16, 17, MIN, MAX}) {
                Check.noSuch("traceAt " + i, () -> x.traceAt(i));
            }
        });
    }

    private static int[] jumpTo199() {
        int[] words = new int[200];
        words[0] = w(GOTO, 199);
        words[199] = w(GOTO, 199);
        return words;
    }

    private static void promise20Trace() {
        Check.test("20: Of the trace at an address: 0 its steps .. 6 bridges", () -> {
            LoopTracer x = started(1, byTurns(3));
            x.run(8 + 6);
            traceIs(x, 0, 6, 1, 1, 0, 0, 0, 0);
            x.run(8);
            traceIs(x, 0, 6, 1, 1, 0, 1, 0, 1);
            x.run(6);
            traceIs(x, 0, 6, 1, 1, 0, 2, 1, 1);
        });
        Check.test("20: each trace has its own passes", () -> {
            LoopTracer x = started(2, loops(17));
            x.run(100000);
            for (int k = 0; k < 16; k++) {
                traceIs(x, 8 * k + 2, 6, 1, 1, 0, 1, 0, 0);
            }
            stepsAre("all of them", x, 17 * 26 + 1, 16 * 5, 16, 0, 16, 0);
        });
        Check.test("20: IndexOutOfBoundsException: no trace at that address", () -> {
            LoopTracer x = started(1, ring(3));
            for (int what = -1; what <= 7; what++) {
                int w = what;
                Check.noSuch("none yet", () -> x.trace(0, w));
            }
            x.run(4);
            Check.noSuch("while it is recorded", () -> x.trace(0, 0));
            x.run(2);
            for (int a : new int[] {-1, 1, 2, 3, 199, 200, MIN, MAX}) {
                for (int what = -1; what <= 7; what++) {
                    int w = what;
                    Check.noSuch("trace(" + a + ", " + what + ")", () -> x.trace(a, w));
                }
            }
        });
        Check.test("20: IndexOutOfBoundsException (also for another what)", () -> {
            LoopTracer x = started(1, ring(3));
            x.run(6);
            for (int what : new int[] {-1, 7, 8, MIN, MAX}) {
                Check.noSuch("trace what " + what, () -> x.trace(0, what));
            }
        });
    }

    private static void promise21Guard() {
        Check.test("21: 0 its address, 1 its FAILS, 2 its bridge's steps (0 without one), 3 its CUTS", () -> {
            LoopTracer x = started(2, oddSum(41));
            x.run(2 + 14 + 10 + 14);
            guardIs(x, 2, 0, 5, 0, 0, 0);
            guardIs(x, 2, 1, 15, 0, 0, 0);
            x.run(14);
            guardIs(x, 2, 0, 5, 1, 0, 0);
            guardIs(x, 2, 1, 15, 0, 0, 0);
        });
        Check.test("21: 4 to 6 its bridge's GUARDS, new values, FOLDED steps (0 without one)", () -> {
            LoopTracer x = started(1, oddSum(41));
            x.run(2 + 14 + 10);
            guardIs(x, 2, 0, 5, 0, 0, 0, 0, 0, 0);
            x.run(14);
            // From UNLESS on, for 39: two guards, of UNLESS and IF, and two new values, the sum and the count.
            guardIs(x, 2, 0, 5, 1, 11, 0, 2, 2, 0);
            guardIs(x, 2, 1, 15, 0, 0, 0, 0, 0, 0);
        });
        Check.test("21: IndexOutOfBoundsException: no trace", () -> {
            LoopTracer x = started(1, countDown(9));
            Check.noSuch("none yet", () -> x.guard(2, 0, 0));
            x.run(2 + 12);
            Check.same("now", x.guard(2, 0, 0), 7);
            for (int a : new int[] {-1, 0, 1, 3, 8, 9, 199, 200, MIN, MAX}) {
                Check.noSuch("guard at " + a, () -> x.guard(a, 0, 0));
            }
            Check.noSuch("of a new machine", () -> new LoopTracer(3).guard(0, 0, 0));
        });
        Check.test("21: IndexOutOfBoundsException: no such guard", () -> {
            LoopTracer x = started(1, countDown(9));
            x.run(2 + 12);
            for (int k : new int[] {-1, 1, 2, 47, 48, MIN, MAX}) {
                for (int what = 0; what <= 6; what++) {
                    int w = what;
                    Check.noSuch("guard k " + k, () -> x.guard(2, k, w));
                }
            }
            LoopTracer y = started(1, ring(3));
            y.run(6);
            Check.noSuch("a trace without guards", () -> y.guard(0, 0, 0));
        });
        Check.test("21: IndexOutOfBoundsException (also for another what)", () -> {
            LoopTracer x = started(1, countDown(9));
            x.run(2 + 12);
            for (int what : new int[] {-1, 7, 8, MIN, MAX}) {
                Check.noSuch("guard what " + what, () -> x.guard(2, 0, what));
            }
        });
    }

    private static void promise22Recording() {
        Check.test("22: -1 when nothing is", () -> {
            Check.same("new", new LoopTracer(3).recording(), -1);
            for (int state = LoopTracer.LOADING; state <= LoopTracer.BROKEN; state++) {
                Check.same("state " + state, inState(state).recording(), -1);
            }
        });
        Check.test("22: What is being recorded: its HEAD", () -> {
            LoopTracer x = started(1, jumpTo199());
            x.run(2);
            Check.same("the last address", x.recording(), 199);
            LoopTracer y = started(1, ring(2));
            y.run(2);
            Check.same("the first address", y.recording(), 0);
        });
        Check.test("22: and 1000 more for a bridge", () -> {
            LoopTracer x = started(1, byTurns(9));
            x.run(14 + 6 + 6);
            Check.same("of a trace at 0", x.recording(), 1000);
            LoopTracer y = started(1, countDown(4));
            y.run(2 + 24);
            Check.same("of a trace at 2", y.recording(), 1002);
        });
    }

    private static void promise23Invalidate() {
        Check.test("23: The trace at an address goes: whether there was a trace", () -> {
            LoopTracer x = started(1, ring(3));
            Check.same("none", x.invalidate(0), false);
            x.run(6);
            Check.same("at another address", x.invalidate(1), false);
            Check.same("it stays", x.traces(), 1);
            Check.same("there was one", x.invalidate(0), true);
            Check.same("it went", x.traces(), 0);
            Check.noSuch("no address", () -> x.traceAt(0));
            Check.noSuch("no steps", () -> x.trace(0, 0));
            Check.same("no more", x.invalidate(0), false);
        });
        Check.test("23: The trace goes, and others stay", () -> {
            LoopTracer x = started(2, loops(17));
            x.run(100000);
            Check.same("the third", x.invalidate(18), true);
            Check.same("15", x.traces(), 15);
            Check.same("the second", x.traceAt(1), 10);
            Check.same("the fourth", x.traceAt(2), 26);
        });
        Check.test("23: with its bridges", () -> {
            LoopTracer x = started(1, byTurns(3));
            x.run(8 + 6 + 8);
            Check.same("there was one", x.invalidate(0), true);
            Check.noSuch("no guard", () -> x.guard(0, 0, 2));
            x.run(6 + 8);
            // Made again, from the round that goes the other way, it has none.
            traceIs(x, 0, 8, 1, 1, 0, 0, 0, 0);
            guardIs(x, 0, 0, 4, 0, 0, 0, 0, 0, 0);
        });
        Check.test("23: The trace goes: one made again has nothing of it", () -> {
            LoopTracer x = started(1, countDown(4));
            x.run(1000);
            traceIs(x, 2, 6, 1, 1, 0, 2, 1, 0);
            guardIs(x, 2, 0, 7, 0, 0, 1, 0, 0, 0);
            x.invalidate(2);
            x.start();
            x.run(2 + 12);
            traceIs(x, 2, 6, 1, 1, 0, 0, 0, 0);
            guardIs(x, 2, 0, 7, 0, 0, 0, 0, 0, 0);
            LoopTracer y = started(2, countDown(6));
            y.run(1000);
            guardIs(y, 2, 0, 7, 1, 0, 0);
            y.invalidate(2);
            y.start();
            y.run(2 + 18);
            guardIs(y, 2, 0, 7, 0, 0, 0);
        });
        Check.test("23: 16 traces go, and 16 are made again, each of its own", () -> {
            LoopTracer x = started(2, loops(16));
            x.run(100000);
            for (int round = 0; round < 2; round++) {
                Check.same("full", x.traces(), 16);
                for (int k = 0; k < 16; k++) {
                    Check.same("there was one", x.invalidate(8 * k + 2), true);
                }
                Check.same("empty", x.traces(), 0);
                x.start();
                x.run(100000);
                for (int k = 0; k < 16; k++) {
                    Check.same("by addresses", x.traceAt(k), 8 * k + 2);
                    traceIs(x, 8 * k + 2, 6, 1, 1, 0, 1, 0, 0);
                    guardIs(x, 8 * k + 2, 0, 8 * k + 7, 1, 0, 0);
                }
            }
        });
        Check.test("23: and the heat of the address", () -> {
            LoopTracer x = started(3, ring(3));
            x.run(6);
            Check.same("two", x.heat(0), 2);
            x.invalidate(0);
            Check.same("none", x.heat(0), 0);
            x.run(6);
            Check.same("two again", x.recording(), -1);
            x.run(3);
            Check.same("three", x.recording(), 0);
            LoopTracer y = started(1, w(GOTO, 2), w(GOTO, 0), w(GOTO, 1));
            y.run(3);
            y.invalidate(0);
            Check.same("of no other address", y.heat(1), 1);
        });
        Check.test("23: and CUTS of the address", () -> {
            LoopTracer x = started(1, ring(49));
            x.run(49 * 5);
            Check.same("cold", x.steps(4), 3L);
            Check.same("no trace", x.invalidate(0), false);
            x.run(49 * 5);
            Check.same("three times more", x.steps(4), 6L);
            LoopTracer y = started(1, ring(49));
            y.run(49 * 5);
            y.invalidate(1);
            y.run(49 * 5);
            Check.same("those of another address are of no matter", y.steps(4), 3L);
        });
        Check.test("23: what is recorded with this HEAD is no more (that is no CUT)", () -> {
            LoopTracer x = started(1, ring(5));
            x.run(5 + 2);
            Check.same("another HEAD", x.invalidate(2), false);
            Check.same("goes on", x.recording(), 0);
            Check.same("no trace yet", x.invalidate(0), false);
            Check.same("no more", x.recording(), -1);
            Check.same("no cut", x.steps(5), 0L);
            x.run(3 + 5);
            Check.same("recorded anew", x.trace(0, 0), 5);
            LoopTracer y = started(1, ring(49));
            for (int i = 0; i < 5; i++) {
                y.run(49);
                y.invalidate(0);
            }
            Check.same("never cold", y.steps(4), 5L);
            Check.same("never cut", y.steps(5), 0L);
        });
        Check.test("23: a bridge that is recorded with this HEAD is no more (that is no CUT)", () -> {
            LoopTracer x = started(1, byTurns(30));
            x.run(35 + 6 + 10);
            Check.same("a bridge", x.recording(), 1000);
            Check.same("there was a trace", x.invalidate(0), true);
            Check.same("no more", x.recording(), -1);
            Check.same("no cut", x.steps(5), 0L);
            Check.same("runs on", x.run(100), LoopTracer.RUNNING);
        });
        Check.test("23: IndexOutOfBoundsException: no address of the code", () -> {
            LoopTracer x = started(1, ring(3));
            x.run(6);
            for (int a : new int[] {-1, 3, 4, 199, 200, MIN, MAX}) {
                Check.noSuch("invalidate " + a, () -> x.invalidate(a));
            }
            Check.same("the trace stays", x.traces(), 1);
            Check.noSuch("no code", () -> new LoopTracer(3).invalidate(0));
            Check.same("the last word", loaded(3, many(200, HALT)).invalidate(199), false);
            Check.noSuch("behind the last word", () -> loaded(3, many(200, HALT)).invalidate(200));
        });
        Check.test("23: it is refused in no state", () -> {
            for (int state = LoopTracer.LOADING; state <= LoopTracer.BROKEN; state++) {
                Check.same("state " + state, inState(state).invalidate(0), false);
            }
        });
    }

    private static void promise24Reset() {
        Check.test("24: All is as at first, from each state", () -> {
            for (int state = LoopTracer.LOADING; state <= LoopTracer.BROKEN; state++) {
                LoopTracer x = inState(state);
                x.reset();
                isNew(x);
            }
        });
        Check.test("24: All is as at first, with traces, bridges, output and memory", () -> {
            LoopTracer x = started(1, DOES_ALL);
            x.run(100);
            x.reset();
            isNew(x);
            load(x, byTurns(3));
            x.verify();
            x.start();
            x.run(8 + 6 + 8);
            guardIs(x, 0, 0, 4, 1, 4, 0, 1, 0, 0);
            x.reset();
            isNew(x);
            load(x, loops(17));
            x.verify();
            x.start();
            x.run(1000);
            x.reset();
            isNew(x);
        });
        Check.test("24: All is as at first, from 16 traces to 16 others", () -> {
            LoopTracer x = started(2, loops(17));
            x.run(100000);
            x.reset();
            isNew(x);
            load(x, loops(16));
            x.verify();
            x.start();
            x.run(100000);
            Check.same("full", x.traces(), 16);
            for (int k = 0; k < 16; k++) {
                traceIs(x, 8 * k + 2, 6, 1, 1, 0, 1, 0, 0);
            }
        });
        Check.test("24: All is as at first, in a recording", () -> {
            LoopTracer x = started(1, ring(3));
            x.run(4);
            x.reset();
            isNew(x);
            load(x, ring(3));
            x.verify();
            x.start();
            x.run(2);
            Check.same("nothing is recorded", x.recording(), -1);
            Check.same("no heat", x.heat(0), 0);
        });
        Check.test("24: All is as at first, locals and the place of a fault too", () -> {
            LoopTracer x = inState(LoopTracer.READY);
            for (int i = 0; i < 16; i++) {
                x.setLocal(i, 7);
            }
            x.reset();
            isNew(x);
            x.verify();
            Check.same("a fault", x.place(), 0);
            x.reset();
            isNew(x);
        });
        Check.test("24: All is as at first, what was COLD is not", () -> {
            LoopTracer x = started(1, ring(49));
            x.run(49 * 5);
            x.reset();
            load(x, ring(49));
            x.verify();
            x.start();
            x.run(49 * 5);
            stepsAre("as a new one", x, 49 * 5, 0, 0, 0, 3, 3);
        });
        Check.test("24: All is as at first, from 200 words to other ones", () -> {
            LoopTracer x = loaded(3, many(200, 27));
            x.reset();
            Check.same("the first word", x.poke(0, HALT), 1);
            Check.same("no other word", x.verify(), 0);
            Check.noSuch("no word 1", () -> x.heat(1));
        });
        Check.test("24: (the threshold stays)", () -> {
            for (int threshold : new int[] {1, 5, 1000, 0}) {
                LoopTracer x = new LoopTracer(threshold);
                x.reset();
                load(x, ring(1));
                x.verify();
                x.start();
                int due = threshold == 0 ? 3 : threshold;
                x.run(due - 1);
                Check.same("one less", x.recording(), -1);
                x.run(1);
                Check.same("threshold", x.recording(), 0);
            }
        });
    }

    private static void allCalls() {
        Check.test("An object is used for at most 512 calls after it has been made", () -> {
            LoopTracer x = started(1, COUNTS);
            int calls = COUNTS.length + 2;
            for (; calls < 510; calls++) {
                Check.same("state", x.run(100000), LoopTracer.RUNNING);
            }
            long all = 100000L * (510 - COUNTS.length - 2);
            Check.same("all steps", x.steps(0), all);
            Check.same("all numbers", x.emitted(), (int) (all / 7) + (all % 7 >= 6 ? 1 : 0));
        });
    }
}
