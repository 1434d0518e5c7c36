/** Terms: a test of its own for each sentence on heat, recordings, passes and bridges that names an edge. */
public final class EdgesOfTracesTest extends Codes {
    public static void main(String[] args) {
        plainSteps();
        heat();
        whenRecordingBegins();
        howRecordingEnds();
        cuts();
        passes();
        passesThatAreLeft();
        bridges();
        bridgesThatAreLeft();
        limitsOfBridges();
        Check.finish("EdgesOfTracesTest");
    }

    private static void plainSteps() {
        Check.test("Whatever runs how, what comes out is what plain steps give", () -> {
            int[][] codes = {countDown(50), oddSum(50), byTurns(1), byTurns(60), loops(17), divides()};
            for (int[] words : codes) {
                for (int fuel : new int[] {1, 5, 6, 7, 13, 100}) {
                    LoopTracer x = started(1, words);
                    LoopTracer plain = started(1000, words);
                    for (int i = 0; i < 30 && x.state() == LoopTracer.RUNNING; i++) {
                        Check.same("state", x.run(fuel), plain.run(fuel));
                        Check.same("address", x.address(), plain.address());
                        Check.same("steps", x.steps(0), plain.steps(0));
                        Check.same("height", x.height(), plain.height());
                        Check.same("local 0", x.local(0), plain.local(0));
                        Check.same("local 1", x.local(1), plain.local(1));
                    }
                    Check.same("plain", plain.steps(2), 0L);
                }
            }
        });
    }

    private static void heat() {
        Check.test("each GOTO that goes to an address not above its own", () -> {
            LoopTracer x = started(1000, w(GOTO, 0));
            x.run(3);
            Check.same("to itself", x.heat(0), 3);
            LoopTracer y = started(1000, w(GOTO, 1), w(GOTO, 3), w(GOTO, 0), w(GOTO, 2));
            y.run(4);
            Check.same("back to 0", y.heat(0), 1);
            Check.same("to the next one", y.heat(1), 0);
            Check.same("back by one", y.heat(2), 1);
            Check.same("forward", y.heat(3), 0);
        });
        Check.test("each IF, UNLESS that goes to an address not above its own", () -> {
            for (int op : new int[] {IF, UNLESS}) {
                int goes = op == IF ? 1 : 0;
                LoopTracer x = started(1000, w(PUSH, goes), w(op, 0), HALT);
                x.run(4);
                Check.same("it goes back", x.heat(0), 2);
                LoopTracer y = started(1000, w(PUSH, 1 - goes), w(op, 0), HALT);
                y.run(2);
                Check.same("it does not go", y.heat(0), 0);
                Check.same("but to the next one", y.heat(2), 0);
                LoopTracer z = started(1000, w(PUSH, goes), w(op, 2), HALT);
                z.run(2);
                Check.same("it goes to the next one", z.heat(2), 0);
            }
        });
        Check.test("and is done plainly, adds 1 to the heat of that address", () -> {
            LoopTracer x = started(1, ring(3));
            x.run(6);
            Check.same("first, and while it is recorded", x.heat(0), 2);
            x.run(30);
            Check.same("not in passes", x.heat(0), 2);
            x.run(2);
            x.run(1);
            Check.same("for want of fuel", x.heat(0), 3);
        });
        Check.test("Nothing in a pass or bridge adds to heat", () -> {
            LoopTracer x = started(1, byTurns(3));
            x.run(8 + 6 + 8);
            Check.same("the bridge is there", x.guard(0, 0, 2), 4);
            Check.same("three plain jumps back", x.heat(0), 3);
            x.run((6 + 8) * 5);
            Check.same("five passes and five with bridges", x.steps(3), 10L);
            Check.same("no heat", x.heat(0), 3);
        });
    }

    private static void whenRecordingBegins() {
        Check.test("If the heat is THRESHOLD or more then", () -> {
            for (int threshold : new int[] {1, 2, 5, 1000}) {
                LoopTracer x = started(threshold, ring(1));
                x.run(threshold - 1);
                Check.same("one less", x.recording(), -1);
                Check.same("none began", x.steps(4), 0L);
                x.run(1);
                Check.same("as much", x.recording(), 0);
                x.start();
                Check.same("the heat stays", x.heat(0), threshold);
                x.run(1);
                Check.same("more", x.recording(), 0);
                Check.same("two began", x.steps(4), 2L);
            }
        });
        Check.test("nothing is being recorded", () -> {
            LoopTracer x = started(1, w(GOTO, 2), w(GOTO, 0), w(GOTO, 1));
            x.run(2);
            Check.same("at 1", x.recording(), 1);
            x.run(1);
            Check.same("0 is hot", x.heat(0), 1);
            Check.same("still 1", x.recording(), 1);
            Check.same("one began", x.steps(4), 1L);
            x.run(2);
            Check.same("over", x.recording(), -1);
            x.run(1);
            Check.same("now 0", x.recording(), 0);
        });
        Check.test("there is no trace at that address", () -> {
            LoopTracer x = started(1, ring(2));
            x.run(4);
            Check.same("a trace", x.traces(), 1);
            x.run(1);
            x.run(1);
            Check.same("hotter", x.heat(0), 3);
            Check.same("not recorded again", x.recording(), -1);
            Check.same("one began", x.steps(4), 1L);
            x.invalidate(0);
            x.run(2);
            Check.same("without it", x.recording(), 0);
        });
        Check.test("it is not COLD", () -> {
            LoopTracer x = started(1, ring(49));
            x.run(49);
            for (int cut = 1; cut <= 2; cut++) {
                x.run(49);
                Check.same("cuts", x.steps(5), (long) cut);
                Check.same("recorded again", x.recording(), 0);
            }
            x.run(49);
            Check.same("three cuts", x.steps(5), 3L);
            Check.same("cold", x.recording(), -1);
            x.run(490);
            Check.same("for ever", x.recording(), -1);
            stepsAre("cold", x, 49 * 14, 0, 0, 0, 3, 3);
            Check.same("heat grows on", x.heat(0), 11);
        });
        Check.test("and there are fewer than 16 traces", () -> {
            LoopTracer x = started(2, loops(17));
            x.run(15 * 26);
            Check.same("15 traces", x.traces(), 15);
            x.run(26);
            Check.same("a 16th one", x.traces(), 16);
            x.run(26);
            Check.same("no 17th one", x.traces(), 16);
            Check.same("though hot", x.heat(130), 3);
            Check.same("none began", x.steps(4), 16L);
            LoopTracer y = started(2, loops(17));
            y.run(16 * 26);
            y.invalidate(2);
            y.run(26);
            Check.same("16 again", y.traces(), 16);
            Check.same("with the 17th loop", y.traceAt(15), 130);
        });
        Check.test("RECORDING begins there, with the instruction done next", () -> {
            LoopTracer x = started(1, countDown(9));
            x.run(2 + 5);
            Check.same("before the jump", x.recording(), -1);
            x.run(1);
            Check.same("behind the jump", x.recording(), 2);
            x.run(6);
            Check.same("the jump that made it hot is none of its steps", x.trace(2, 0), 6);
        });
    }

    private static void howRecordingEnds() {
        Check.test("What is done while something is recorded is done plainly, and recorded, step by step", () -> {
            LoopTracer x = started(1, w(GOTO, 2), w(GOTO, 0), w(GOTO, 1));
            x.run(5);
            x.run(1);
            Check.same("there is a trace at 1", x.traceAt(0), 1);
            Check.same("and 0 is recorded", x.recording(), 0);
            x.run(2 + 4);
            stepsAre("through 1 plainly, then a pass from 0", x, 12, 3, 1, 1, 2, 0);
            Check.same("of the trace at 0", x.trace(0, 4), 1);
            Check.same("not of that at 1", x.trace(1, 4), 0);
        });
        Check.test("It is over when, behind a step, the machine is at its HEAD", () -> {
            LoopTracer x = started(1, ring(1));
            x.run(1);
            Check.same("not behind the jump that made it hot", x.recording(), 0);
            x.run(1);
            Check.same("behind one step", x.recording(), -1);
            traceIs(x, 0, 1, 0, 0, 0, 0, 0, 0);
        });
        Check.test("at its HEAD, by a jump or not", () -> {
            LoopTracer x = started(1, w(PUSH, 0), POP, w(LOAD, 0), NOT, DUP, w(STORE, 0), w(IF, 2), w(GOTO, 0));
            x.run(2 + 5);
            Check.same("recording", x.recording(), 2);
            x.run(5 + 2);
            Check.same("still", x.recording(), 2);
            x.run(1);
            Check.same("POP leads to the HEAD", x.recording(), -1);
            Check.same("8 steps", x.trace(2, 0), 8);
        });
        Check.test("the steps are the TRACE at this address then", () -> {
            LoopTracer x = started(1, ring(48));
            x.run(95);
            Check.same("47 steps are none", x.traces(), 0);
            x.run(1);
            Check.same("all 48", x.trace(0, 0), 48);
            Check.same("at 0", x.traceAt(0), 0);
            Check.same("no cut", x.steps(5), 0L);
        });
        Check.test("What is recorded while run() ends is gone on with by the next one", () -> {
            LoopTracer x = started(1, ring(10));
            for (int i = 0; i < 20; i++) {
                Check.same("recording", x.recording(), i < 10 ? -1 : 0);
                x.run(0);
                x.run(1);
            }
            Check.same("10 steps", x.trace(0, 0), 10);
            Check.same("one recording", x.steps(4), 1L);
        });
    }

    /** 6 is divided by local 0, which is counted down; the divisor 0 breaks. */
    private static int[] divides(int op) {
        return new int[] {w(PUSH, 6), w(LOAD, 0), op, POP, w(LOAD, 0), w(PUSH, 1), SUB, w(STORE, 0), w(GOTO, 0)};
    }

    /** The same with 7 more in the divisor, so that it breaks in the eighth round. */
    private static int[] divides() {
        return new int[] {w(PUSH, 6), w(LOAD, 0), w(PUSH, -7), SUB, DIV, POP, w(LOAD, 0), w(PUSH, 1), SUB, w(STORE, 0),
            w(GOTO, 0)};
    }

    private static void cuts() {
        Check.test("It is CUT OFF before a 49th step", () -> {
            LoopTracer x = started(1, ring(60));
            x.run(60 + 48);
            Check.same("48 steps", x.recording(), 0);
            x.run(0);
            Check.same("no fuel for a 49th", x.recording(), 0);
            Check.same("no cut", x.steps(5), 0L);
            x.run(1);
            Check.same("cut off", x.recording(), -1);
            Check.same("a cut", x.steps(5), 1L);
            Check.same("and the step is done", x.address(), 49);
        });
        Check.test("It is CUT OFF before HALT", () -> {
            LoopTracer x = started(1, countDown(2));
            x.run(2 + 6 + 6);
            Check.same("before HALT", x.recording(), 2);
            Check.same("no cut", x.steps(5), 0L);
            Check.same("HALT is done", x.run(1), LoopTracer.HALTED);
            Check.same("cut off", x.recording(), -1);
            Check.same("a cut", x.steps(5), 1L);
        });
        Check.test("It is CUT OFF when the machine BREAKS", () -> {
            for (int op : new int[] {DIV, REM}) {
                LoopTracer x = verified(1, divides(op));
                x.setLocal(0, 1);
                x.start();
                x.run(9 + 2);
                Check.same("before it", x.recording(), 0);
                Check.same("breaks", x.run(1), LoopTracer.BROKEN);
                Check.same("cut off", x.recording(), -1);
                Check.same("a cut", x.steps(5), 1L);
                Check.same("no heat", x.heat(0), 0);
                Check.same("no trace", x.traces(), 0);
            }
        });
        Check.test("nothing is made", () -> {
            LoopTracer x = started(1, ring(49));
            x.run(49 * 10);
            Check.same("no trace", x.traces(), 0);
            Check.same("no pass", x.steps(2), 0L);
            Check.noSuch("none at 0", () -> x.trace(0, 0));
        });
        Check.test("the heat of the address is 0", () -> {
            LoopTracer x = started(3, ring(60));
            x.run(180 + 48);
            Check.same("hot", x.heat(0), 3);
            x.run(1);
            Check.same("none", x.heat(0), 0);
            x.run(11);
            Check.same("one again", x.heat(0), 1);
            x.run(60);
            Check.same("two are too few", x.recording(), -1);
            x.run(60);
            Check.same("three are enough", x.recording(), 0);
        });
        Check.test("the CUTS of it are one more; with three it is COLD", () -> {
            LoopTracer x = started(1, countDown(2));
            for (int cut = 1; cut <= 3; cut++) {
                x.run(100);
                Check.same("cuts", x.steps(5), (long) cut);
                x.start();
            }
            x.run(100);
            Check.same("no fourth recording", x.steps(4), 3L);
            Check.same("no fourth cut", x.steps(5), 3L);
            Check.same("so heat is kept", x.heat(2), 1);
        });
        Check.test("the CUTS of it, and of no other address", () -> {
            // The first loop has two rounds, so that what it begins is cut off before HALT, behind the second loop.
            int[] words = loops(2);
            words[0] = w(PUSH, 2);
            LoopTracer x = started(1, words);
            for (int cut = 1; cut <= 3; cut++) {
                x.run(1000);
                Check.same("cuts", x.steps(5), (long) cut);
                x.start();
            }
            x.run(1000);
            Check.same("2 is cold, 10 is not", x.traces(), 1);
            Check.same("its trace", x.traceAt(0), 10);
        });
    }

    private static void passes() {
        Check.test("when the machine, running and not recording, is at the address of a trace", () -> {
            LoopTracer x = started(1, ring(4));
            x.run(8);
            x.start();
            x.run(4);
            stepsAre("from the first step on", x, 4, 4, 1, 1, 1, 0);
            x.run(1);
            x.run(4);
            stepsAre("not in the midst of it", x, 9, 4, 1, 1, 1, 0);
        });
        Check.test("and there is fuel for all its steps", () -> {
            LoopTracer x = started(1, countDown(100));
            x.run(2 + 12);
            x.run(0);
            x.run(5);
            stepsAre("one too few", x, 19, 0, 0, 0, 1, 0);
            x.run(1);
            x.run(6);
            stepsAre("just enough", x, 26, 6, 1, 1, 1, 0);
            x.run(11);
            stepsAre("for one alone", x, 37, 12, 2, 2, 1, 0);
            x.run(1);
            x.run(13);
            stepsAre("for two", x, 51, 24, 4, 4, 1, 0);
        });
        Check.test("fuel for all its steps, though it is left early", () -> {
            LoopTracer x = started(3, byTurns(1));
            x.run(6 + 6 + 6 + 6);
            Check.same("a trace", x.trace(0, 0), 6);
            x.run(5);
            stepsAre("5 of 6", x, 29, 0, 0, 0, 1, 0);
        });
        Check.test("it COMES ROUND then", () -> {
            LoopTracer x = started(1, ring(5));
            x.run(10 + 5 * 7);
            traceIs(x, 0, 5, 0, 0, 0, 7, 7, 0);
            stepsAre("rounds", x, 45, 35, 7, 7, 1, 0);
            Check.same("at the trace's address", x.address(), 0);
        });
        Check.test("not recording: behind what was CUT OFF a pass begins where there is a trace", () -> {
            // The inner loop at 6 has its trace; the outer one at 0 is recorded for 48 steps, which end at 6.
            LoopTracer x = started(2, w(PUSH, 20), w(STORE, 1), w(PUSH, 0), POP, w(PUSH, 0), POP, w(LOAD, 1), w(PUSH, 1),
                    SUB, DUP, w(STORE, 1), w(IF, 6), w(GOTO, 0));
            for (int i = 0; i < 50; i++) {
                x.run(5);
            }
            x.run(4 + 48);
            Check.same("the inner trace", x.trace(6, 0), 6);
            Check.same("the outer one is recorded", x.recording(), 0);
            Check.same("at the inner trace", x.address(), 6);
            stepsAre("plainly so far", x, 302, 0, 0, 0, 2, 0);
            x.run(6);
            stepsAre("a pass", x, 308, 6, 1, 1, 2, 1);
        });
        Check.test("a pass goes through the address of another trace", () -> {
            LoopTracer x = started(1, w(GOTO, 2), w(GOTO, 0), w(GOTO, 1));
            x.run(5);
            x.run(1);
            x.run(3);
            Check.same("two traces", x.traces(), 2);
            x.run(30);
            traceIs(x, 0, 3, 0, 0, 0, 10, 10, 0);
            traceIs(x, 1, 3, 0, 0, 0, 0, 0, 0);
        });
    }

    private static void passesThatAreLeft() {
        Check.test("as long as x of each IF and UNLESS is 0, or is not, as it was", () -> {
            // 5 and 3 are as 4 was for IF: any number that is not 0.
            LoopTracer x = started(1, countDown(5));
            x.run(2 + 12 + 12);
            stepsAre("not 0", x, 26, 12, 2, 2, 1, 0);
            x.run(6);
            stepsAre("0", x, 32, 12 + 5, 3, 2, 2, 0);
            Check.same("left before IF, which is then done", x.address(), 8);
        });
        Check.test("Where that is otherwise its guard FAILS, and it is left before that step", () -> {
            for (int op : new int[] {IF, UNLESS}) {
                for (int[] pair : new int[][] {{0, 1}, {0, MIN}, {1, 0}, {MIN, 0}}) {
                    LoopTracer x = asks(op, pair[0]);
                    again(x, pair[1]);
                    Check.same("two passes begin", x.trace(0, 4), 8);
                    Check.same("and are left", x.trace(0, 5), 5);
                    guardIs(x, 0, 0, 1, 2, 0, 0);
                    Check.same("behind one step", x.steps(1), 2L);
                }
                for (int[] pair : new int[][] {{0, 0}, {1, 2}, {1, -1}, {MIN, MAX}}) {
                    LoopTracer x = asks(op, pair[0]);
                    again(x, pair[1]);
                    Check.same("two passes begin", x.trace(0, 4), 8);
                    Check.same("one comes round, one halts", x.trace(0, 5), 6);
                    guardIs(x, 0, 0, 1, 0, 0, 0);
                }
            }
        });
        Check.test("or DIV, REM would BREAK, its guard FAILS", () -> {
            for (int op : new int[] {DIV, REM}) {
                LoopTracer x = verified(2, divides(op));
                x.setLocal(0, 5);
                x.start();
                x.run(9 * 3 + 9);
                Check.same("a trace", x.trace(0, 0), 9);
                Check.same("breaks", x.run(1000), LoopTracer.BROKEN);
                stepsAre("broken", x, 9 * 5 + 2, 18 + 2, 3, 2, 1, 0);
                guardIs(x, 0, 0, 2, 1, 0, 0, 0, 0, 0);
                Check.same("there", x.address(), 2);
            }
        });
        Check.test("A guard that FAILS has one FAIL more", () -> {
            LoopTracer x = started(1000, byTurns(1));
            x.run(100000);
            int before = x.guard(0, 0, 1);
            for (int i = 1; i <= 5; i++) {
                x.run(12);
                Check.same("fails", x.guard(0, 0, 1), before + i);
            }
        });
        Check.test("Behind a pass that was left the next step is done plainly", () -> {
            // The head itself has the guard, so the pass is left before its first step.
            LoopTracer x = verified(1, w(LOAD, 0), w(UNLESS, 8), w(LOAD, 0), w(PUSH, 1), SUB, DUP, w(STORE, 0),
                    w(GOTO, 1), HALT);
            x.setLocal(0, 5);
            x.start();
            x.run(1 + 14 + 21);
            stepsAre("three rounds", x, 36, 21, 3, 3, 1, 0);
            Check.same("halts", x.run(100), LoopTracer.HALTED);
            stepsAre("left at once", x, 38, 21, 4, 3, 2, 1);
            guardIs(x, 1, 0, 1, 0, 0, 1, 0, 0, 0);
        });
        Check.test("the next step is done plainly: no other pass of this trace begins there", () -> {
            LoopTracer x = verified(2, w(LOAD, 0), w(UNLESS, 8), w(LOAD, 0), w(PUSH, 1), SUB, DUP, w(STORE, 0),
                    w(GOTO, 1), HALT);
            x.setLocal(0, 6);
            x.start();
            Check.same("halts", x.run(100), LoopTracer.HALTED);
            stepsAre("left once", x, 45, 21, 4, 3, 1, 0);
            guardIs(x, 1, 0, 1, 1, 0, 0, 0, 0, 0);
        });
        Check.test("the next step is done plainly: no pass of another trace begins there", () -> {
            // The trace at 0 is left at 1, where there is a trace of rounds with 0; it comes round from its IF on.
            LoopTracer x = verified(3, w(LOAD, 0), w(IF, 4), w(LOAD, 1), w(GOTO, 1), w(LOAD, 0), w(PUSH, 1), SUB,
                    w(STORE, 0), w(GOTO, 0));
            x.setLocal(0, 5);
            x.start();
            x.run(5 * 7 + 4 + 3 * 3);
            traceIs(x, 0, 7, 1, 1, 0, 2, 1, 0);
            traceIs(x, 1, 3, 1, 0, 0, 0, 0, 0);
            x.start();
            x.run(7);
            stepsAre("one step, three plain ones, a pass", x, 7, 1 + 3, 4, 2, 2, 0);
            traceIs(x, 0, 7, 1, 1, 0, 3, 1, 0);
            traceIs(x, 1, 3, 1, 0, 0, 1, 1, 0);
        });
    }

    /** A trace that asks whether local 0 is 0, made with a value of it: 10 rounds, 5 of them passes, and HALT. */
    private static LoopTracer asks(int op, int value) {
        LoopTracer x = verified(3, w(LOAD, 0), w(op, 3), w(GOTO, 3), w(LOAD, 1), w(PUSH, 1), SUB, DUP, w(STORE, 1),
                w(IF, 0), HALT);
        x.setLocal(0, value);
        x.setLocal(1, 10);
        x.start();
        Check.same("halts", x.run(1000), LoopTracer.HALTED);
        traceIs(x, 0, x.trace(0, 0), 2, 1, 0, 6, 5, 0);
        guardIs(x, 0, 0, 1, 0, 0, 0);
        return x;
    }

    /** Two rounds more with another value of local 0. */
    private static void again(LoopTracer x, int value) {
        x.setLocal(0, value);
        x.setLocal(1, 2);
        x.start();
        Check.same("halts again", x.run(1000), LoopTracer.HALTED);
    }

    private static void bridges() {
        Check.test("if it has a BRIDGE, and there is fuel for all its steps, these are done likewise", () -> {
            LoopTracer x = started(1, byTurns(3));
            x.run(8 + 6 + 8);
            guardIs(x, 0, 0, 4, 1, 4, 0, 1, 0, 0);
            traceIs(x, 0, 6, 1, 1, 0, 1, 0, 1);
            x.run(6);
            x.run(7);
            stepsAre("one too few", x, 35, 4 + 6 + 4, 3, 1, 2, 0);
            guardIs(x, 0, 0, 4, 2, 4);
            x.run(1);
            x.run(6);
            x.run(8);
            stepsAre("just enough", x, 50, 14 + 6 + 8, 5, 3, 2, 0);
            guardIs(x, 0, 0, 4, 3, 4);
        });
        Check.test("then it COMES ROUND", () -> {
            LoopTracer x = started(1, byTurns(3));
            x.run(8 + 6 + 8 + 6 + 8);
            traceIs(x, 0, 6, 1, 1, 0, 3, 2, 1);
            Check.same("at the trace's address", x.address(), 0);
            x.run(6);
            traceIs(x, 0, 6, 1, 1, 0, 4, 3, 1);
        });
        Check.test("if it has THRESHOLD FAILS or more: RECORDING of its BRIDGE begins with that step", () -> {
            LoopTracer x = started(3, byTurns(3));
            x.run(8 + 6 + 8 + 6);
            Check.same("the trace", x.trace(0, 0), 6);
            x.run(8 + 6 + 8);
            guardIs(x, 0, 0, 4, 2, 0);
            Check.same("two are too few", x.steps(4), 1L);
            x.run(6);
            x.run(6);
            guardIs(x, 0, 0, 4, 3, 0);
            Check.same("three are enough", x.recording(), 1000);
            x.run(2);
            Check.same("its steps, with that of the guard", x.guard(0, 0, 2), 4);
        });
        Check.test("no bridge", () -> {
            LoopTracer x = started(1, byTurns(3));
            x.run(8 + 6 + 8);
            x.run((6 + 8) * 20);
            Check.same("it fails often", x.guard(0, 0, 1), 21);
            Check.same("but has its bridge", x.steps(4), 2L);
            Check.same("one bridge", x.trace(0, 6), 1);
        });
        Check.test("its HEAD is the trace's address", () -> {
            LoopTracer x = started(1, oddSum(9));
            x.run(2 + 14 + 10 + 10);
            Check.same("1000 more", x.recording(), 1002);
            x.run(4);
            Check.same("over at the HEAD", x.address(), 2);
            Check.same("over", x.recording(), -1);
            Check.same("a bridge", x.trace(2, 6), 1);
        });
        Check.test("its bridge's GUARDS, new values, FOLDED steps, as if it were a trace", () -> {
            // In the bridge: 2 + 3 is folded, local 1 is added and asked for twice, and the sum is asked for.
            LoopTracer x = verified(1, w(LOAD, 0), NOT, DUP, w(STORE, 0), w(IF, 6), w(GOTO, 0), w(PUSH, 2), w(PUSH, 3),
                    ADD, w(LOAD, 1), ADD, w(UNLESS, 12), w(LOAD, 1), w(IF, 14), w(LOAD, 1), w(IF, 16), w(GOTO, 0));
            x.start();
            x.run(16 + 6 + 16);
            traceIs(x, 0, 6, 1, 1, 0, 1, 0, 1);
            guardIs(x, 0, 0, 4, 1, 12, 0, 3, 1, 1);
        });
    }

    private static void bridgesThatAreLeft() {
        Check.test("(left before a step that is otherwise, without more)", () -> {
            // The bridge was recorded while local 1 was not 0; later it is left at 10.
            LoopTracer x = verified(1, w(LOAD, 0), NOT, DUP, w(STORE, 0), w(IF, 6), w(GOTO, 0), w(LOAD, 1), w(PUSH, 1),
                    SUB, DUP, w(STORE, 1), w(IF, 0), w(GOTO, 0));
            x.setLocal(1, 4);
            x.start();
            x.run(11 + 6 + 11 + 6 + 11 + 6);
            guardIs(x, 0, 0, 4, 2, 7, 0, 2, 1, 0);
            stepsAre("rounds", x, 51, 4 + 6 + 11 + 6, 4, 3, 2, 0);
            x.run(11);
            Check.same("the step is done plainly", x.address(), 12);
            guardIs(x, 0, 0, 4, 3, 7, 0, 2, 1, 0);
            stepsAre("left", x, 62, 27 + 4 + 6, 5, 3, 2, 0);
            Check.same("nothing is recorded", x.recording(), -1);
        });
        Check.test("(left before a step that would break, without more)", () -> {
            LoopTracer x = verified(1, w(LOAD, 0), NOT, DUP, w(STORE, 0), w(IF, 6), w(GOTO, 0), w(PUSH, 9), w(LOAD, 1),
                    DIV, POP, w(LOAD, 1), w(PUSH, 1), SUB, w(STORE, 1), w(GOTO, 0));
            x.setLocal(1, 3);
            x.start();
            Check.same("breaks", x.run(1000), LoopTracer.BROKEN);
            Check.same("there", x.address(), 8);
            stepsAre("broken", x, 14 + 6 + 14 + 6 + 14 + 6 + 7, 4 + 6 + 14 + 6 + 7, 5, 3, 2, 0);
            guardIs(x, 0, 0, 4, 3, 10, 0, 2, 2, 0);
        });
    }

    private static void limitsOfBridges() {
        Check.test("a bridge of 48 steps, and none of 49", () -> {
            LoopTracer x = started(1, byTurns(47));
            x.run(52 + 6 + 52);
            guardIs(x, 0, 0, 4, 1, 48, 0, 1, 0, 0);
            LoopTracer y = started(1, byTurns(48));
            y.run(53 + 6 + 52);
            Check.same("48 steps", y.recording(), 1000);
            y.run(1);
            Check.same("cut off before the 49th", y.recording(), -1);
            guardIs(y, 0, 0, 4, 0, 0, 1, 0, 0, 0);
        });
        Check.test("CUT OFF, the guard has one CUT more, and no FAILS", () -> {
            LoopTracer x = started(2, byTurns(48));
            x.run(53 + 6);
            Check.same("hot by 5", x.recording(), 0);
            x.run(53);
            Check.same("too long for a trace", x.steps(5), 1L);
            LoopTracer y = started(1, byTurns(48));
            y.run(53 + 6 + 53);
            guardIs(y, 0, 0, 4, 0, 0, 1);
            Check.same("the trace stays", y.traces(), 1);
            Check.same("and the heat of its address", y.heat(0), 3);
            Check.same("a cut in all", y.steps(5), 1L);
        });
        Check.test("fewer than three CUTS of its own", () -> {
            LoopTracer x = started(1, byTurns(48));
            x.run(53);
            for (int cut = 1; cut <= 3; cut++) {
                x.run(6 + 53);
                guardIs(x, 0, 0, 4, 0, 0, cut);
            }
            for (int fail = 1; fail <= 4; fail++) {
                x.run(6 + 53);
                guardIs(x, 0, 0, 4, fail, 0, 3);
            }
            Check.same("four recordings", x.steps(4), 4L);
            Check.same("three cuts", x.steps(5), 3L);
        });
        Check.test("before HALT the bridge is CUT OFF", () -> {
            LoopTracer x = started(1, countDown(4));
            x.run(2 + 24);
            Check.same("recording", x.recording(), 1002);
            Check.same("halts", x.run(1), LoopTracer.HALTED);
            guardIs(x, 2, 0, 7, 0, 0, 1, 0, 0, 0);
            Check.same("a cut", x.steps(5), 1L);
        });
        Check.test("when the machine BREAKS the bridge is CUT OFF", () -> {
            LoopTracer x = verified(1, divides(DIV));
            x.setLocal(0, 3);
            x.start();
            Check.same("breaks", x.run(1000), LoopTracer.BROKEN);
            guardIs(x, 0, 0, 2, 0, 0, 1, 0, 0, 0);
            stepsAre("broken", x, 9 * 3 + 2, 9 + 2, 2, 1, 2, 1);
        });
        Check.test("its trace has fewer than 4 bridges", () -> {
            LoopTracer x = started(1, bits(5));
            x.run(100000);
            Check.same("guards", x.trace(0, 1), 5);
            Check.same("four bridges", x.trace(0, 6), 4);
            Check.same("recordings", x.steps(4), 5L);
            int without = 0;
            for (int k = 0; k < 5; k++) {
                if (x.guard(0, k, 2) == 0) {
                    without++;
                    Check.same("it fails often", x.guard(0, k, 1) > 1, true);
                }
            }
            Check.same("one guard is without", without, 1);
            LoopTracer y = started(1, bits(4));
            y.run(100000);
            Check.same("all four have theirs", y.trace(0, 6), 4);
        });
        Check.test("16 traces are no bar to a bridge", () -> {
            LoopTracer x = started(2, loops(17));
            x.run(100000);
            x.start();
            Check.same("16 traces", x.traces(), 16);
            long before = x.steps(4);
            x.run(2 + 6 * 4);
            Check.same("a bridge is recorded", x.recording(), 1002);
            Check.same("one more", x.steps(4), before + 1);
        });
    }

    /** Asks for so many bits of local 0, each in a branch of its own, and counts it up. */
    private static int[] bits(int asked) {
        int[] words = new int[0];
        for (int bit = 0; bit < asked; bit++) {
            int at = words.length;
            words = join(words, new int[] {w(LOAD, 0), w(PUSH, 1 << bit), AND, w(IF, at + 5), w(GOTO, at + 5)});
        }
        return join(words, new int[] {w(LOAD, 0), w(PUSH, 1), ADD, w(STORE, 0), w(GOTO, 0)});
    }
}
