/** Terms: a test of its own for each sentence on the values and guards of a trace that names an edge. */
public final class EdgesOfValuesTest extends Codes {
    public static void main(String[] args) {
        whatIsThereAtFirst();
        folded();
        sameValues();
        peeksAtConstants();
        peeksElsewhere();
        guards();
        knownGuards();
        Check.finish("EdgesOfValuesTest");
    }

    /** The words in a loop for ever, with 3 in local 0 and 4 in local 1: guards, new values and folded steps. */
    private static void found(int guards, int newValues, int folded, int... words) {
        int[] all = join(words, new int[] {w(GOTO, 0)});
        LoopTracer x = verified(1, all);
        x.setLocal(0, 3);
        x.setLocal(1, 4);
        x.start();
        x.run(2 * all.length);
        traceIs(x, 0, all.length, guards, newValues, folded);
    }

    private static void whatIsThereAtFirst() {
        Check.test("VALUES: constants", () -> {
            found(0, 0, 0, w(PUSH, 1), POP);
            found(0, 0, 0, w(PUSH, LEAST), w(STORE, 2), w(LOAD, 2), w(PUSH, GREATEST), SWAP, POP, DUP, POP, EMIT);
        });
        Check.test("what locals have when a pass begins, each of its own", () -> {
            int[] low = new int[0];
            int[] high = new int[0];
            for (int i = 0; i < 8; i++) {
                low = join(low, new int[] {w(LOAD, i), NEG, POP});
                high = join(high, new int[] {w(LOAD, 8 + i), NEG, POP});
            }
            found(0, 8, 0, low);
            found(0, 8, 0, high);
            found(0, 2, 0, w(LOAD, 7), NEG, POP, w(LOAD, 8), NEG, POP, w(LOAD, 7), NEG, POP);
        });
        Check.test("what the stack has when a pass begins, each of its own", () -> {
            // A full stack goes to the locals and comes back; 15 of its ints are negated.
            int[] words = many(16, w(PUSH, 1));
            for (int i = 0; i < 16; i++) {
                words = join(words, new int[] {w(STORE, i)});
            }
            for (int i = 0; i < 16; i++) {
                words = join(words, i == 0 ? new int[] {w(LOAD, i)} : new int[] {w(LOAD, i), NEG});
            }
            LoopTracer x = started(1, join(words, new int[] {w(GOTO, 16)}));
            x.run(16 + 48 + 48);
            traceIs(x, 16, 48, 0, 15, 0);
        });
        Check.test("a local and the stack are not the same, though equal", () -> {
            LoopTracer x = started(1, w(LOAD, 0), DUP, NOT, POP, w(LOAD, 0), NOT, POP, w(GOTO, 1));
            x.run(1 + 7 + 7);
            traceIs(x, 1, 7, 0, 2, 0);
        });
        Check.test("each of its own: locals and the stack", () -> {
            // 7 ints of the stack go through locals 0 .. 6; they and locals 9 .. 15 are negated.
            int[] words = many(7, w(PUSH, 0));
            for (int i = 0; i < 7; i++) {
                words = join(words, new int[] {w(STORE, i)});
            }
            for (int i = 0; i < 7; i++) {
                words = join(words, new int[] {w(LOAD, i), NEG, w(LOAD, 9 + i), NEG, POP});
            }
            LoopTracer x = started(1, join(words, new int[] {w(GOTO, 7)}));
            x.run(7 + 43 + 43);
            traceIs(x, 7, 43, 0, 14, 0);
        });
        Check.test("VALUES of a trace are found step by step, and nothing is left of a trace before", () -> {
            // The first loop folds, stores a constant in local 0 and pokes late; the second one asks for these.
            LoopTracer x = started(2, w(PUSH, 4), w(STORE, 15), w(PUSH, 5), w(STORE, 0), w(PUSH, 2), w(PUSH, 3), ADD, POP,
                    w(PUSH, 1), w(PUSH, 7), POKE, w(LOAD, 15), w(PUSH, 1), SUB, DUP, w(STORE, 15), w(IF, 2),
                    w(PUSH, 4), w(STORE, 15), w(LOAD, 0), NEG, POP, w(LOAD, 1), PEEK, POP, w(LOAD, 1), PEEK, POP,
                    w(LOAD, 15), w(PUSH, 1), SUB, DUP, w(STORE, 15), w(IF, 19), HALT);
            Check.same("halts", x.run(1000), LoopTracer.HALTED);
            traceIs(x, 2, 15, 1, 1, 1);
            traceIs(x, 19, 15, 1, 3, 0);
            guardIs(x, 2, 0, 16);
            guardIs(x, 19, 0, 33);
        });
        Check.test("STORE, LOAD, DUP and SWAP make no value", () -> {
            found(0, 1, 0, w(LOAD, 0), w(STORE, 5), w(LOAD, 5), DUP, w(LOAD, 1), SWAP, NEG, POP, POP, NEG, POP);
            found(0, 2, 0, w(LOAD, 0), w(LOAD, 1), SWAP, NEG, POP, NEG, POP);
        });
    }

    private static void folded() {
        Check.test("A step of 4 to 17 whose operands are constants makes a constant (it is FOLDED)", () -> {
            for (int op = ADD; op <= SAME; op++) {
                found(0, 0, 1, w(PUSH, 6), w(PUSH, 3), op, POP);
                found(0, 0, 2, w(PUSH, 6), w(PUSH, 3), op, NOT, POP);
            }
            found(0, 0, 1, w(PUSH, 6), NEG, POP);
            found(0, 0, 1, w(PUSH, 6), NOT, POP);
        });
        Check.test("whose operands are constants, all of them", () -> {
            for (int op = ADD; op <= SAME; op++) {
                int guards = op == DIV || op == REM ? 1 : 0;
                found(0, 1, 0, w(LOAD, 0), w(PUSH, 3), op, POP);
                found(guards, 1, 0, w(PUSH, 6), w(LOAD, 0), op, POP);
                found(guards, 1, 0, w(LOAD, 1), w(LOAD, 0), op, POP);
                found(guards, 1, 0, w(LOAD, 0), DUP, op, POP);
            }
            found(0, 1, 0, w(LOAD, 0), NEG, POP);
            found(0, 1, 0, w(LOAD, 0), NOT, POP);
        });
        Check.test("folded twice, both steps are FOLDED", () ->
            found(0, 0, 2, w(PUSH, 6), NEG, POP, w(PUSH, 6), NEG, POP));
        Check.test("no other step is FOLDED", () ->
            found(0, 0, 0, w(PUSH, 1), DUP, SWAP, POP, w(STORE, 0), w(LOAD, 0), EMIT, w(PUSH, 1), w(PUSH, 2), POKE,
                    w(PUSH, 1), PEEK, w(IF, 13), w(PUSH, 0), w(UNLESS, 15)));
        Check.test("constants are ints that wrap", () -> {
            // 65536 times itself is place 0, and the least int its own opposite.
            found(0, 1, 1, w(PUSH, 0), PEEK, POP, w(PUSH, 65536), DUP, MUL, PEEK, POP);
            found(0, 1, 4, w(LOAD, 0), w(PUSH, 1), w(PUSH, 31), SHL, ADD, POP, w(LOAD, 0), w(PUSH, 1), w(PUSH, -1), SHL,
                    NEG, w(PUSH, 0), OR, ADD, POP);
        });
    }

    private static void sameValues() {
        Check.test("one that has the same OP and the same operands gives the same value", () -> {
            for (int op = ADD; op <= SAME; op++) {
                int guards = op == DIV || op == REM ? 1 : 0;
                found(guards, 1, 0, w(LOAD, 0), w(LOAD, 1), op, POP, w(LOAD, 0), w(LOAD, 1), op, POP);
                found(0, 1, 0, w(LOAD, 0), w(PUSH, 9), op, POP, w(LOAD, 0), w(PUSH, 9), op, POP);
            }
            found(0, 1, 0, w(LOAD, 0), NEG, POP, w(LOAD, 0), NEG, POP);
            found(0, 1, 0, w(LOAD, 0), NOT, POP, w(LOAD, 0), NOT, POP);
        });
        Check.test("the same OP", () -> {
            found(0, 2, 0, w(LOAD, 0), w(LOAD, 1), ADD, POP, w(LOAD, 0), w(LOAD, 1), OR, POP);
            found(0, 2, 0, w(LOAD, 0), NEG, POP, w(LOAD, 0), NOT, POP);
            found(1, 2, 0, w(LOAD, 0), w(LOAD, 1), DIV, POP, w(LOAD, 0), w(LOAD, 1), REM, POP);
        });
        Check.test("the same operands", () -> {
            found(0, 2, 0, w(LOAD, 0), w(PUSH, 9), ADD, POP, w(LOAD, 0), w(PUSH, 8), ADD, POP);
            found(0, 2, 0, w(LOAD, 0), w(LOAD, 1), ADD, POP, w(LOAD, 0), w(LOAD, 2), ADD, POP);
            found(0, 2, 0, w(LOAD, 0), w(LOAD, 2), ADD, POP, w(LOAD, 1), w(LOAD, 2), ADD, POP);
        });
        Check.test("the same operands: equal constants are the same", () ->
            found(0, 1, 1, w(LOAD, 0), w(PUSH, 5), ADD, POP, w(LOAD, 0), w(PUSH, 2), w(PUSH, 3), ADD, ADD, POP));
        Check.test("in the same order", () -> {
            for (int op = ADD; op <= SAME; op++) {
                int guards = op == DIV || op == REM ? 2 : 0;
                found(guards, 2, 0, w(LOAD, 0), w(LOAD, 1), op, POP, w(LOAD, 1), w(LOAD, 0), op, POP);
            }
        });
        Check.test("as one before it in the trace, however far", () -> {
            int[] between = new int[0];
            for (int i = 0; i < 13; i++) {
                between = join(between, new int[] {w(PUSH, 100 + i), ADD, NEG});
            }
            found(0, 1 + 26, 0, join(new int[] {w(LOAD, 0), NEG, POP, w(LOAD, 1)}, between,
                    new int[] {POP, w(LOAD, 0), NEG, POP}));
        });
        Check.test("any other one makes a new value", () -> {
            // 47 steps that each need what was made before.
            int[] words = join(new int[] {w(LOAD, 0)}, many(45, NEG), new int[] {POP});
            found(0, 45, 0, words);
        });
        Check.test("as one before it in the trace: not in another one, as which a bridge is looked at", () -> {
            LoopTracer x = started(1, w(LOAD, 0), NEG, POP, w(LOAD, 1), NOT, DUP, w(STORE, 1), w(IF, 9), w(GOTO, 0),
                    w(LOAD, 0), NEG, POP, w(GOTO, 0));
            x.run(12 + 9 + 12);
            traceIs(x, 0, 9, 1, 2, 0, 1, 0, 1);
            guardIs(x, 0, 0, 7, 1, 5, 0, 1, 1, 0);
        });
    }

    private static void peeksAtConstants() {
        Check.test("PEEK of a constant place gives the value that was put there last in the trace", () -> {
            found(0, 1, 0, w(PUSH, 1), w(LOAD, 0), POKE, w(PUSH, 1), PEEK, NEG, POP, w(LOAD, 0), NEG, POP);
            found(0, 1, 0, w(PUSH, 1), w(LOAD, 0), POKE, w(PUSH, 1), w(LOAD, 1), POKE, w(PUSH, 1), PEEK, NEG, POP,
                    w(LOAD, 1), NEG, POP);
            found(0, 0, 1, w(PUSH, 1), w(PUSH, 5), POKE, w(PUSH, 1), PEEK, NEG, POP);
            // What is put there behind a PEEK is found from then on.
            found(0, 2, 0, w(PUSH, 1), PEEK, POP, w(PUSH, 1), w(LOAD, 0), POKE, w(PUSH, 1), PEEK, NEG, POP, w(LOAD, 0),
                    NEG, POP);
        });
        Check.test("(of those alike by 31)", () -> {
            for (int place : new int[] {33, 65, -31, LEAST + 1}) {
                found(0, 1, 0, w(PUSH, 1), w(LOAD, 0), POKE, w(PUSH, place), PEEK, NEG, POP, w(LOAD, 0), NEG, POP);
                found(0, 1, 0, w(PUSH, place), w(LOAD, 0), POKE, w(PUSH, 1), PEEK, NEG, POP, w(LOAD, 0), NEG, POP);
                found(0, 1, 0, w(PUSH, 1), PEEK, POP, w(PUSH, place), PEEK, POP);
            }
            found(0, 1, 0, w(PUSH, 31), PEEK, POP, w(PUSH, -1), PEEK, POP);
            found(0, 1, 0, w(PUSH, 31), PEEK, POP, w(PUSH, GREATEST), PEEK, POP);
            found(0, 2, 0, w(PUSH, 1), PEEK, POP, w(PUSH, 17), PEEK, POP);
            found(0, 2, 0, w(PUSH, 0), PEEK, POP, w(PUSH, 31), PEEK, POP);
        });
        Check.test("or found there", () -> {
            found(0, 1, 0, w(PUSH, 2), PEEK, POP, w(PUSH, 2), PEEK, POP);
            found(0, 1, 0, w(PUSH, 2), PEEK, POP, w(PUSH, 3), w(PUSH, 9), POKE, w(PUSH, 2), PEEK, POP);
            int[] first = new int[0];
            for (int place = 0; place < 15; place++) {
                first = join(first, new int[] {w(PUSH, place), PEEK, POP});
            }
            found(0, 15, 0, first);
        });
        Check.test("if no POKE of a place that is no constant came since", () -> {
            found(0, 2, 0, w(PUSH, 2), PEEK, POP, w(LOAD, 0), w(PUSH, 9), POKE, w(PUSH, 2), PEEK, POP);
            found(0, 1, 0, w(PUSH, 2), w(PUSH, 4), POKE, w(LOAD, 0), w(PUSH, 9), POKE, w(PUSH, 2), PEEK, POP);
            // Before it is not since.
            found(0, 0, 1, w(LOAD, 0), w(PUSH, 9), POKE, w(PUSH, 2), w(PUSH, 4), POKE, w(PUSH, 2), PEEK, NOT, POP);
            found(0, 1, 0, w(LOAD, 0), w(PUSH, 9), POKE, w(PUSH, 2), PEEK, POP, w(PUSH, 2), PEEK, POP);
            found(0, 0, 1, w(LOAD, 0), w(PUSH, 9), POKE, w(LOAD, 0), w(PUSH, 9), POKE, w(PUSH, 31), w(PUSH, 4), POKE,
                    w(PUSH, -1), PEEK, NOT, POP);
        });
    }

    private static void peeksElsewhere() {
        Check.test("PEEK of a place that is no constant gives what one of that very value did", () -> {
            found(0, 1, 0, w(LOAD, 0), PEEK, POP, w(LOAD, 0), PEEK, POP);
            found(0, 2, 0, w(LOAD, 2), PEEK, POP, w(LOAD, 3), PEEK, POP);
            found(0, 2, 0, w(LOAD, 0), NEG, PEEK, POP, w(LOAD, 0), NEG, PEEK, POP);
            // What it gave is a value like others.
            found(0, 2, 0, w(LOAD, 0), PEEK, NEG, POP, w(LOAD, 0), PEEK, NEG, POP);
            found(0, 2, 0, w(LOAD, 0), PEEK, PEEK, POP, w(LOAD, 0), PEEK, PEEK, POP);
        });
        Check.test("if no POKE came since, of whatever place", () -> {
            found(0, 2, 0, w(LOAD, 0), PEEK, POP, w(PUSH, 1), w(PUSH, 1), POKE, w(LOAD, 0), PEEK, POP);
            found(0, 2, 0, w(LOAD, 0), PEEK, POP, w(LOAD, 1), w(PUSH, 1), POKE, w(LOAD, 0), PEEK, POP);
            found(0, 1, 0, w(PUSH, 1), w(PUSH, 1), POKE, w(LOAD, 0), PEEK, POP, w(LOAD, 0), PEEK, POP);
        });
        Check.test("otherwise it makes a new value", () -> {
            // What was put at such a place is not found there.
            found(0, 1, 0, w(LOAD, 0), w(PUSH, 1), POKE, w(LOAD, 0), PEEK, POP);
            found(0, 2, 0, w(LOAD, 0), w(LOAD, 1), POKE, w(LOAD, 0), PEEK, NEG, POP);
            // A constant place and another one do not know of one another, and PEEK disturbs neither.
            found(0, 2, 0, w(PUSH, 3), PEEK, POP, w(LOAD, 0), PEEK, POP, w(PUSH, 3), PEEK, POP);
            found(0, 2, 0, w(LOAD, 0), PEEK, POP, w(PUSH, 3), PEEK, POP, w(LOAD, 0), PEEK, POP);
        });
    }

    private static void guards() {
        Check.test("GUARDS: IF and UNLESS whose x is no constant have one", () -> {
            found(1, 0, 0, w(LOAD, 0), w(IF, 2));
            found(1, 0, 0, w(LOAD, 0), w(UNLESS, 2));
            found(1, 1, 0, w(LOAD, 0), NOT, w(IF, 3));
            found(1, 1, 0, w(PUSH, 1), PEEK, w(IF, 3));
        });
        Check.test("IF and UNLESS whose x is a constant have none", () -> {
            for (int x : new int[] {0, 1, -1}) {
                found(0, 0, 0, w(PUSH, x), w(IF, 2));
                found(0, 0, 0, w(PUSH, x), w(UNLESS, 2));
                found(0, 0, 1, w(PUSH, x), NOT, w(IF, 3));
                found(0, 0, 0, w(PUSH, 1), w(PUSH, x), POKE, w(PUSH, 33), PEEK, w(IF, 6));
            }
        });
        Check.test("DIV and REM whose y is none have one", () -> {
            for (int op : new int[] {DIV, REM}) {
                found(1, 1, 0, w(LOAD, 1), w(LOAD, 0), op, POP);
                found(1, 1, 0, w(PUSH, 9), w(LOAD, 0), op, POP);
                found(0, 1, 0, w(LOAD, 0), w(PUSH, 9), op, POP);
                found(0, 0, 1, w(PUSH, 9), w(PUSH, 9), op, POP);
                found(0, 0, 1, w(PUSH, 0), w(PUSH, -1), op, POP);
            }
        });
        Check.test("a trace may be without guards, and full of them", () -> {
            LoopTracer x = started(1, ring(48));
            x.run(96);
            Check.same("none", x.trace(0, 1), 0);
            Check.noSuch("guard 0", () -> x.guard(0, 0, 0));
            // 16 locals, each asked for once, and no more than that though asked for again.
            int[] words = new int[0];
            for (int i = 0; i < 23; i++) {
                words = join(words, new int[] {w(LOAD, i % 16), w(IF, 2 * i + 2)});
            }
            found(16, 0, 0, words);
        });
        Check.test("of guard k (from 0, in order)", () -> {
            LoopTracer x = recordedLoop(w(LOAD, 0), w(IF, 2), w(LOAD, 0), w(IF, 4), w(LOAD, 1), w(UNLESS, 6), w(PUSH, 3),
                    w(LOAD, 2), NOT, DIV, w(IF, 11), w(LOAD, 3), w(IF, 13));
            int[] due = {1, 5, 9, 10, 12};
            Check.same("guards", x.trace(0, 1), due.length);
            for (int k = 0; k < due.length; k++) {
                Check.same("guard " + k, x.guard(0, k, 0), due[k]);
            }
            Check.noSuch("one more", () -> x.guard(0, due.length, 0));
        });
    }

    private static void knownGuards() {
        Check.test("unless it is known by a guard before it whether that very value is 0", () -> {
            for (int one : new int[] {IF, UNLESS}) {
                for (int other : new int[] {IF, UNLESS}) {
                    found(1, 0, 0, w(LOAD, 0), w(one, 2), w(LOAD, 0), w(other, 4));
                    found(1, 0, 0, w(LOAD, 2), w(one, 2), w(LOAD, 2), w(other, 4));
                }
                for (int division : new int[] {DIV, REM}) {
                    found(1, 1, 0, w(LOAD, 0), w(one, 2), w(LOAD, 1), w(LOAD, 0), division, POP);
                    found(1, 1, 0, w(LOAD, 1), w(LOAD, 0), division, POP, w(LOAD, 0), w(one, 6));
                }
            }
            found(1, 2, 0, w(LOAD, 1), w(LOAD, 0), DIV, POP, w(LOAD, 1), w(LOAD, 0), REM, POP);
        });
        Check.test("that very value", () -> {
            found(2, 0, 0, w(LOAD, 0), w(IF, 2), w(LOAD, 1), w(IF, 4));
            found(2, 1, 0, w(LOAD, 0), w(IF, 2), w(LOAD, 0), NOT, w(IF, 5));
            found(1, 1, 0, w(LOAD, 0), NOT, w(IF, 3), w(LOAD, 0), NOT, w(UNLESS, 6));
            // x of a division is not known by it, nor what it makes.
            found(2, 1, 0, w(LOAD, 1), w(LOAD, 0), DIV, POP, w(LOAD, 1), w(IF, 6));
            found(2, 1, 0, w(LOAD, 1), w(LOAD, 0), DIV, w(IF, 4));
            // A PEEK that makes a new value is asked for anew.
            found(2, 2, 0, w(LOAD, 0), PEEK, w(IF, 3), w(PUSH, 3), w(PUSH, 1), POKE, w(LOAD, 0), PEEK, w(IF, 9));
            found(1, 1, 0, w(LOAD, 0), PEEK, w(IF, 3), w(LOAD, 0), PEEK, w(IF, 6));
        });
        Check.test("known by a guard before it, not by one behind it nor in a pass before", () -> {
            LoopTracer x = recordedLoop(w(LOAD, 0), w(IF, 2), w(LOAD, 0), w(IF, 4));
            Check.same("the first has it", x.guard(0, 0, 0), 1);
            Check.same("the other has none", x.trace(0, 1), 1);
            // A local that is given another value is asked for anew.
            found(2, 1, 0, w(LOAD, 0), w(IF, 2), w(LOAD, 0), NEG, w(STORE, 0), w(LOAD, 0), w(IF, 7));
        });
    }
}
