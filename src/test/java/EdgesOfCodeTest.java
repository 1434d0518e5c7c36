import java.util.Arrays;

/** Terms: a test of its own for each sentence on words, steps and verified code that names an edge. */
public final class EdgesOfCodeTest extends Codes {
    public static void main(String[] args) {
        words();
        rooms();
        arithmetic();
        jumpsAndMemory();
        stepsThatBreak();
        faultsOfWords();
        faultsOfHeights();
        whereItIsTold();
        Check.finish("EdgesOfCodeTest");
    }

    private static void words() {
        Check.test("CODE: up to 200 WORDS at addresses 0, 1, ..", () -> {
            LoopTracer x = started(3, join(many(199, w(GOTO, 0)), new int[] {HALT}));
            Check.same("all 200 words are code", x.heat(199), 0);
            int[] words = join(lead(199), new int[] {HALT});
            LoopTracer y = started(3, words);
            Check.same("through all words", y.run(200), LoopTracer.HALTED);
            Check.same("to the last one", y.address(), 199);
            Check.noSuch("the 201st word", () -> loaded(3, words).poke(200, HALT));
        });
        Check.test("of a word the lowest six bits are the OP", () -> {
            fault(0, -1, 64);
            fault(0, -1, MIN);
            fault(1, 0, 63);
            fault(1, 0, -1);
            fault(1, 0, MAX);
            fault(0, -1, -64 + PUSH, HALT);
        });
        Check.test("the others, with sign, its ARGUMENT", () -> {
            int[] arguments = {0, 1, -1, LEAST, LEAST + 1, GREATEST, GREATEST - 1};
            for (int argument : arguments) {
                LoopTracer x = started(3, w(PUSH, argument), HALT);
                x.run(1);
                Check.same("PUSH " + argument, x.stack(0), argument);
            }
        });
        Check.test("(Other arguments are of no matter.)", () -> {
            for (int argument : new int[] {LEAST, -1, 16, 200, GREATEST}) {
                int[] ops = {ADD, SUB, MUL, DIV, REM, AND, OR, XOR, SHL, SHR, LESS, SAME, NEG, NOT, DUP, SWAP, POP,
                    EMIT, PEEK, POKE};
                for (int op : ops) {
                    LoopTracer x = started(3, w(PUSH, 9), w(PUSH, 2), w(op, argument), HALT);
                    LoopTracer y = started(3, w(PUSH, 9), w(PUSH, 2), op, HALT);
                    Check.same("op " + op, x.run(3), y.run(3));
                    Check.same("height of op " + op, x.height(), y.height());
                    for (int i = 0; i < y.height(); i++) {
                        Check.same("stack of op " + op, x.stack(i), y.stack(i));
                    }
                    Check.same("address behind op " + op, x.address(), 3);
                    Check.same("emitted by op " + op, x.emitted(), y.emitted());
                    Check.same("memory of op " + op, x.memory(9), y.memory(9));
                }
                Check.same("HALT " + argument, started(3, w(HALT, argument)).run(1), LoopTracer.HALTED);
            }
        });
    }

    private static void rooms() {
        Check.test("LOCALS 0 .. 15", () -> {
            int[] words = new int[33];
            for (int i = 0; i < 16; i++) {
                words[2 * i] = w(PUSH, 100 + i);
                words[2 * i + 1] = w(STORE, i);
            }
            LoopTracer x = started(3, words);
            x.run(33);
            for (int i = 0; i < 16; i++) {
                Check.same("local " + i, x.local(i), 100 + i);
            }
            fault(2, 0, w(LOAD, 16), HALT);
            fault(2, 0, w(LOAD, -1), HALT);
        });
        Check.test("a STACK of at most 16 ints", () -> {
            int[] words = new int[17];
            for (int i = 0; i < 16; i++) {
                words[i] = w(PUSH, 100 + i);
            }
            LoopTracer x = started(3, words);
            x.run(17);
            Check.same("full", x.height(), 16);
            for (int i = 0; i < 16; i++) {
                Check.same("stack " + i, x.stack(i), 100 + i);
            }
            words = Arrays.copyOf(words, 18);
            words[16] = w(PUSH, 0);
            fault(4, 16, words);
        });
        Check.test("a STACK of at most 16 ints: each OP does on a full one what it does on another", () -> {
            int[] ops = {w(STORE, 3), ADD, SUB, MUL, DIV, REM, AND, OR, XOR, SHL, SHR, LESS, SAME, NEG, NOT, SWAP, POP,
                EMIT, PEEK, POKE, w(IF, 18), w(UNLESS, 18)};
            for (int op : ops) {
                int[] behind = {w(PUSH, 9), w(PUSH, 2), op, HALT, HALT};
                LoopTracer full = started(3, join(many(14, w(PUSH, 5)), behind));
                LoopTracer low = started(3, join(lead(14), behind));
                full.run(17);
                low.run(17);
                Check.same("height of op " + op, full.height(), low.height() + 14);
                for (int i = 0; i < low.height(); i++) {
                    Check.same("stack of op " + op, full.stack(14 + i), low.stack(i));
                }
                Check.same("address of op " + op, full.address(), low.address());
                Check.same("local of op " + op, full.local(3), low.local(3));
                Check.same("memory of op " + op, full.memory(9), low.memory(9));
                Check.same("emitted by op " + op, full.emitted(), low.emitted());
            }
            LoopTracer x = started(3, join(many(15, w(PUSH, 5)), new int[] {w(PUSH, 8), EMIT, w(LOAD, 0), EMIT, HALT}));
            x.run(20);
            Check.same("the topmost of 16", x.output(0), 8);
            Check.same("the 16th once more", x.output(1), 0);
        });
        Check.test("a MEMORY of 32 ints", () -> {
            LoopTracer x = started(1000, w(LOAD, 0), w(LOAD, 0), w(PUSH, 100), ADD, POKE, w(LOAD, 0), w(PUSH, 1), ADD,
                    DUP, w(STORE, 0), w(PUSH, 32), SUB, w(IF, 0), HALT);
            Check.same("halts", x.run(32 * 13 + 1), LoopTracer.HALTED);
            for (int i = 0; i < 32; i++) {
                Check.same("memory " + i, x.memory(i), 100 + i);
            }
            Check.noSuch("memory 32", () -> x.memory(32));
        });
        Check.test("and an OUTPUT", () -> {
            LoopTracer x = started(3, w(PUSH, 4), w(PUSH, 5), EMIT, EMIT, HALT);
            Check.noSuch("empty", () -> x.output(0));
            x.run(5);
            Check.same("emitted", x.emitted(), 2);
            Check.same("first", x.output(0), 5);
            Check.same("second", x.output(1), 4);
        });
    }

    /** So many words that do nothing but lead to what is behind them. */
    private static int[] lead(int n) {
        int[] words = new int[n];
        for (int a = 0; a < n; a++) {
            words[a] = w(GOTO, a + 1);
        }
        return words;
    }

    /** Words that push any int: larger ones than an argument holds are put together. */
    private static int[] push(int v) {
        if (v >= LEAST && v <= GREATEST) {
            return new int[] {w(PUSH, v)};
        }
        return new int[] {w(PUSH, v >> 6), w(PUSH, 6), SHL, w(PUSH, v & 63), OR};
    }

    /** Done plainly, while it is recorded, and in a pass: each time the same comes out. */
    private static void loopGives(int due, int x, int y, int... words) {
        int[] all = join(words, new int[] {EMIT, w(GOTO, 0)});
        LoopTracer t = verified(1, all);
        t.setLocal(0, x);
        t.setLocal(1, y);
        t.start();
        t.run(3 * all.length);
        String what = Arrays.toString(words) + " of " + x + ", " + y;
        for (int i = 0; i < 3; i++) {
            int k = i;
            Check.is(what + " round " + i, () -> t.output(k), due);
        }
        Check.same(what + " passes", t.steps(3), 1L);
    }

    /** A folded constant is the one that is due if adding either to local 0 makes but one value. */
    private static void foldGives(int due, int... words) {
        LoopTracer t = recordedLoop(join(new int[] {w(LOAD, 0)}, words, new int[] {ADD, POP, w(LOAD, 0)}, push(due),
                new int[] {ADD, POP}));
        Check.is(Arrays.toString(words) + " folded", () -> t.trace(0, 2), 1);
    }

    private static void two(int op, int x, int y, int due) {
        loopGives(due, x, y, w(LOAD, 0), w(LOAD, 1), op);
        foldGives(due, join(push(x), push(y), new int[] {op}));
    }

    private static void one(int op, int x, int due) {
        loopGives(due, x, 0, w(LOAD, 0), op);
        foldGives(due, join(push(x), new int[] {op}));
    }

    private static void arithmetic() {
        Check.test("All numbers are ints that wrap: ADD", () -> {
            two(ADD, 2, 3, 5);
            two(ADD, MAX, 1, MIN);
            two(ADD, MIN, -1, MAX);
            two(ADD, MIN, MIN, 0);
        });
        Check.test("All numbers are ints that wrap: SUB", () -> {
            two(SUB, 2, 3, -1);
            two(SUB, MIN, 1, MAX);
            two(SUB, 0, MIN, MIN);
        });
        Check.test("All numbers are ints that wrap: MUL", () -> {
            two(MUL, -2, 3, -6);
            two(MUL, 65536, 65536, 0);
            two(MUL, MAX, MAX, 1);
            two(MUL, MIN, -1, MIN);
        });
        Check.test("All numbers are ints that wrap: NEG", () -> {
            one(NEG, 5, -5);
            one(NEG, 0, 0);
            one(NEG, MIN, MIN);
        });
        Check.test("7 DIV (cut off toward 0), wraps", () -> {
            two(DIV, 7, 2, 3);
            two(DIV, -7, 2, -3);
            two(DIV, 7, -2, -3);
            two(DIV, 1, 2, 0);
            two(DIV, -1, 2, 0);
            two(DIV, MIN, -1, MIN);
        });
        Check.test("8 REM (cut off toward 0), wraps", () -> {
            two(REM, 7, 2, 1);
            two(REM, -7, 2, -1);
            two(REM, 7, -2, 1);
            two(REM, MIN, -1, 0);
        });
        Check.test("9 AND 10 OR 11 XOR", () -> {
            two(AND, -4, 7, 4);
            two(OR, MIN, 3, MIN + 3);
            two(XOR, 6, 3, 5);
            two(XOR, MIN, MIN, 0);
        });
        Check.test("12 SHL (x by the lowest five bits of y)", () -> {
            two(SHL, 1, 0, 1);
            two(SHL, 1, 31, MIN);
            two(SHL, 3, 31, MIN);
            two(SHL, 1, 32, 1);
            two(SHL, 1, 33, 2);
            two(SHL, 1, -1, MIN);
            two(SHL, 1, MIN, 1);
        });
        Check.test("13 SHR (x by the lowest five bits of y; the sign comes in)", () -> {
            two(SHR, -8, 1, -4);
            two(SHR, MIN, 31, -1);
            two(SHR, MAX, 31, 0);
            two(SHR, -8, 32, -8);
            two(SHR, -8, -31, -4);
            two(SHR, MAX, MIN + 1, MAX / 2);
        });
        Check.test("14 LESS (1 or 0)", () -> {
            two(LESS, 3, 4, 1);
            two(LESS, 4, 4, 0);
            two(LESS, 5, 4, 0);
            two(LESS, MIN, MAX, 1);
            two(LESS, MAX, MIN, 0);
        });
        Check.test("15 SAME (1 or 0)", () -> {
            two(SAME, 4, 4, 1);
            two(SAME, 4, 5, 0);
            two(SAME, MIN, MIN, 1);
            two(SAME, MIN, 0, 0);
        });
        Check.test("17 NOT (1 if it is 0, else 0)", () -> {
            one(NOT, 0, 1);
            one(NOT, 1, 0);
            one(NOT, -1, 0);
            one(NOT, MIN, 0);
        });
        Check.test("18 DUP 19 SWAP 20 POP", () -> {
            loopGives(7, 7, 9, w(LOAD, 1), w(LOAD, 0), DUP, POP, SWAP, POP);
            loopGives(9, 7, 9, w(LOAD, 0), w(LOAD, 1), SWAP, POP);
            loopGives(2, 7, 9, w(LOAD, 0), w(LOAD, 1), SWAP, SUB);
            loopGives(-2, 7, 9, w(LOAD, 0), w(LOAD, 1), DUP, POP, SUB);
            loopGives(18, 7, 9, w(LOAD, 1), DUP, ADD);
        });
    }

    private static void jump(int op, int x, int due) {
        LoopTracer t = verified(3, w(LOAD, 0), w(op, 3), HALT, HALT);
        t.setLocal(0, x);
        t.start();
        t.run(2);
        Check.same("op " + op + " of " + x, t.address(), due);
        Check.same("takes x", t.height(), 0);
    }

    private static void jumpsAndMemory() {
        Check.test("21 GOTO the argument, an address", () -> {
            LoopTracer x = started(1000, w(GOTO, 2), w(GOTO, 1), w(GOTO, 4), HALT, w(GOTO, 0));
            int[] due = {2, 4, 0};
            for (int a : due) {
                x.run(1);
                Check.same("address", x.address(), a);
            }
            LoopTracer y = started(1000, w(GOTO, 0));
            y.run(5);
            Check.same("to itself", y.address(), 0);
            Check.same("each a step", y.steps(0), 5L);
        });
        Check.test("22 IF takes x, goes there if it is not 0", () -> {
            jump(IF, 0, 2);
            jump(IF, 1, 3);
            jump(IF, -1, 3);
            jump(IF, MIN, 3);
        });
        Check.test("23 UNLESS if it is 0", () -> {
            jump(UNLESS, 0, 3);
            jump(UNLESS, 1, 2);
            jump(UNLESS, -1, 2);
            jump(UNLESS, MIN, 2);
        });
        Check.test("25 PEEK: x becomes the memory at x and 31 (by bits)", () -> {
            int[][] places = {{0, 0}, {31, 31}, {32, 0}, {33, 1}, {-1, 31}, {-32, 0}, {MIN, 0}, {MAX, 31}};
            for (int[] p : places) {
                LoopTracer x = verified(1, w(PUSH, p[1]), w(PUSH, 77), POKE, w(LOAD, 0), PEEK, EMIT, w(GOTO, 3));
                x.setLocal(0, p[0]);
                x.start();
                x.run(3 + 3 * 4);
                for (int i = 0; i < 3; i++) {
                    Check.same("PEEK at " + p[0], x.output(i), 77);
                }
                Check.same("a pass", x.steps(3), 1L);
                Check.same("x is taken", x.height(), 0);
            }
        });
        Check.test("26 POKE takes x, y: the memory at x and 31 becomes y", () -> {
            int[][] places = {{0, 0}, {31, 31}, {32, 0}, {33, 1}, {-1, 31}, {-32, 0}, {MIN, 0}, {MAX, 31}};
            for (int[] p : places) {
                LoopTracer x = verified(3, w(LOAD, 0), w(PUSH, 77), POKE, HALT);
                x.setLocal(0, p[0]);
                x.start();
                x.run(3);
                for (int i = 0; i < 32; i++) {
                    Check.same("POKE at " + p[0] + ", place " + i, x.memory(i), i == p[1] ? 77 : 0);
                }
                Check.same("both are taken", x.height(), 0);
            }
        });
    }

    private static void stepsThatBreak() {
        Check.test("DIV by 0 BREAKS", () -> breaksBy0(DIV));
        Check.test("REM by 0 BREAKS", () -> breaksBy0(REM));
        Check.test("One that BREAKS is not done: the machine is BROKEN there", () -> {
            LoopTracer x = started(3, w(PUSH, 8), w(PUSH, 0), DIV, HALT);
            Check.same("broken", x.run(3), LoopTracer.BROKEN);
            Check.same("there", x.address(), 2);
            Check.same("no step", x.steps(0), 2L);
            Check.same("nothing taken", x.height(), 2);
            Check.same("x", x.stack(0), 8);
            Check.same("y", x.stack(1), 0);
        });
        Check.test("HALT is a step; behind it the machine is HALTED", () -> {
            LoopTracer x = started(3, HALT, HALT);
            Check.same("not before it", x.run(0), LoopTracer.RUNNING);
            Check.same("behind it", x.run(5), LoopTracer.HALTED);
            Check.same("one step", x.steps(0), 1L);
            Check.same("it goes on nowhere", x.address(), 0);
        });
    }

    private static void breaksBy0(int op) {
        for (int x : new int[] {0, 1, -1, MIN}) {
            LoopTracer t = verified(3, w(LOAD, 0), w(LOAD, 1), op, HALT);
            t.setLocal(0, x);
            t.start();
            Check.same(x + " by 0", t.run(9), LoopTracer.BROKEN);
        }
        // 0 by something is no fault.
        LoopTracer y = started(3, w(PUSH, 0), w(PUSH, 5), op, HALT);
        Check.same("0 by 5", y.run(9), LoopTracer.HALTED);
        Check.same("is 0", y.stack(0), 0);
    }

    private static void faultsOfWords() {
        Check.test("1 an OP that is none", () -> {
            for (int op = 27; op < 64; op++) {
                fault(1, 0, op);
                fault(1, 1, HALT, w(op, -1));
            }
            fault(0, -1, HALT, POKE);
            fault(0, -1, HALT, w(POKE, 5));
        });
        Check.test("2 a local that is not 0 .. 15", () -> {
            for (int op : new int[] {LOAD, STORE}) {
                for (int wrong : new int[] {-1, 16, LEAST, GREATEST}) {
                    fault(2, 1, w(PUSH, 0), w(op, wrong), HALT);
                }
                fault(0, -1, w(PUSH, 0), w(op, 0), HALT);
                fault(0, -1, w(PUSH, 0), w(op, 15), HALT);
            }
        });
        Check.test("2 an address that is none of the code", () -> {
            for (int op : new int[] {GOTO, IF, UNLESS}) {
                for (int wrong : new int[] {-1, 4, 5, 199, 200, LEAST, GREATEST}) {
                    fault(2, 2, w(PUSH, 0), HALT, w(op, wrong), HALT);
                }
            }
            fault(0, -1, w(PUSH, 0), w(GOTO, 3), HALT, HALT);
            fault(0, -1, w(PUSH, 0), w(IF, 3), HALT, HALT);
            fault(0, -1, w(PUSH, 0), w(UNLESS, 3), HALT, HALT);
            // A full code has no address 200.
            fault(2, 199, join(many(199, HALT), new int[] {w(GOTO, 200)}));
            fault(0, -1, join(many(199, HALT), new int[] {w(GOTO, 199)}));
        });
        Check.test("first, by addresses", () -> {
            fault(2, 0, w(LOAD, 16), 27);
            fault(1, 0, 27, w(LOAD, 16));
            fault(1, 0, 63, 27);
            fault(2, 1, w(PUSH, 0), w(GOTO, 9), w(STORE, 16), 27);
        });
        Check.test("Then HEIGHTS", () -> {
            // Words behind, and such that are never reached, come before any height.
            fault(1, 1, ADD, 27);
            fault(2, 2, POP, HALT, w(STORE, 16));
            fault(2, 1, w(PUSH, 0), w(GOTO, 2));
        });
    }

    private static final int[] WANTS_ONE = {STORE, NEG, NOT, DUP, POP, IF, UNLESS, EMIT, PEEK};
    private static final int[] WANTS_TWO = {ADD, SUB, MUL, DIV, REM, AND, OR, XOR, SHL, SHR, LESS, SAME, SWAP, POKE};

    private static void faultsOfHeights() {
        Check.test("address 0 is reached with 0", () -> {
            fault(3, 0, POP, HALT);
            fault(0, -1, HALT);
            fault(5, 1, w(PUSH, 0), w(GOTO, 0));
        });
        Check.test("3 it takes more than its height", () -> {
            for (int op : WANTS_ONE) {
                fault(3, 0, w(op, 1), HALT);
                fault(0, -1, w(PUSH, 0), w(op, 2), HALT);
            }
            for (int op : WANTS_TWO) {
                fault(3, 0, op, HALT);
                fault(3, 1, w(PUSH, 0), op, HALT);
                fault(0, -1, w(PUSH, 0), w(PUSH, 0), op, HALT);
            }
            fault(0, -1, w(LOAD, 0), w(GOTO, 2), HALT);
        });
        Check.test("(DUP wants one, SWAP two)", () -> {
            fault(3, 0, DUP, HALT);
            fault(0, -1, w(PUSH, 0), DUP, HALT);
            fault(3, 0, SWAP, HALT);
            fault(3, 1, w(PUSH, 0), SWAP, HALT);
            fault(0, -1, w(PUSH, 0), w(PUSH, 0), SWAP, HALT);
        });
        Check.test("4 its height behind it is above 16", () -> {
            int[] full = many(16, w(PUSH, 0));
            fault(0, -1, join(full, new int[] {HALT}));
            for (int op : new int[] {w(PUSH, 0), w(LOAD, 0), DUP}) {
                fault(4, 16, join(full, new int[] {op, HALT}));
                fault(0, -1, join(many(15, w(PUSH, 0)), new int[] {op, HALT}));
            }
            // What takes and gives may do so on a full stack.
            for (int op : new int[] {SWAP, NEG, NOT, PEEK, ADD, w(GOTO, 17), POP, w(STORE, 0)}) {
                fault(0, -1, join(full, new int[] {op, HALT}));
            }
        });
        Check.test("the height behind each OP", () -> {
            // A word for each height brings it to 0 again, so a wrong height ends in 3 or 5.
            for (int op = PUSH; op <= POKE; op++) {
                int argument = op == GOTO || op == IF || op == UNLESS ? 4 : 0;
                int behind = heightBehind(op, 3);
                int[] words = join(many(3, w(PUSH, 0)), new int[] {w(op, argument)}, many(behind, POP),
                        new int[] {HALT});
                fault(0, -1, words);
                int[] more = join(many(3, w(PUSH, 0)), new int[] {w(op, argument)}, many(behind + 1, POP),
                        new int[] {HALT});
                fault(3, 4 + behind, more);
            }
        });
        Check.test("6 there is no such word", () -> {
            fault(6, 0, w(PUSH, 0));
            fault(6, 1, w(PUSH, 0), POP);
            fault(6, 1, w(PUSH, 0), w(IF, 0));
            fault(6, 1, w(PUSH, 0), w(UNLESS, 0));
            fault(6, 199, join(many(100, w(PUSH, 0), POP)));
            fault(0, -1, w(PUSH, 0), HALT);
            fault(0, -1, w(PUSH, 0), w(GOTO, 1));
        });
        Check.test("5 it was reached with another one", () -> {
            fault(5, 3, w(LOAD, 0), w(IF, 4), w(PUSH, 1), w(GOTO, 4), HALT);
            fault(0, -1, w(LOAD, 0), w(IF, 4), w(PUSH, 1), POP, HALT);
            // To itself, with one less.
            fault(5, 2, w(PUSH, 0), w(PUSH, 0), w(UNLESS, 2), HALT);
            fault(0, -1, w(PUSH, 0), w(PUSH, 0), w(UNLESS, 1), HALT);
        });
        Check.test("Code without words: 6 at 0", () -> fault(6, 0));
    }

    private static int heightBehind(int op, int height) {
        switch (op) {
            case PUSH: case LOAD: case DUP: return height + 1;
            case STORE: case POP: case IF: case UNLESS: case EMIT: return height - 1;
            case NEG: case NOT: case SWAP: case GOTO: case PEEK: return height;
            case POKE: return height - 2;
            default: return height - 1;
        }
    }

    private static void whereItIsTold() {
        Check.test("(GOTO: its target)", () -> {
            // What stands behind GOTO is not reached by it.
            fault(0, -1, w(GOTO, 2), ADD, HALT);
            fault(3, 2, w(GOTO, 2), HALT, ADD);
        });
        Check.test("(IF, UNLESS: the next one, then the target)", () -> {
            for (int op : new int[] {IF, UNLESS}) {
                // Both would be at fault: the next one, that there is none, comes first.
                fault(6, 2, w(PUSH, 0), w(PUSH, 0), w(op, 0));
                fault(5, 2, w(PUSH, 0), w(PUSH, 0), w(op, 0), HALT);
                // The next one was reached with 1 from 2, and is reached with 2 now; the target is as it was.
                fault(5, 5, w(PUSH, 0), w(PUSH, 0), w(IF, 6), w(PUSH, 0), w(PUSH, 0), w(op, 4), HALT);
                fault(3, 4, w(PUSH, 0), w(op, 3), HALT, w(GOTO, 4), POP);
                fault(3, 2, w(PUSH, 0), w(op, 3), POP, HALT);
            }
        });
        Check.test("(HALT: nowhere)", () -> {
            fault(0, -1, HALT, ADD);
            fault(0, -1, w(PUSH, 0), HALT);
        });
        Check.test("the least address that is reached and was not looked at is looked at", () -> {
            // 2 (reached last, from 4) and 5 are both at fault.
            fault(3, 2, w(GOTO, 3), HALT, ADD, w(LOAD, 0), w(IF, 2), ADD, HALT);
            // 2 is looked at before the target 4, though both were reached at once.
            fault(3, 2, w(PUSH, 0), w(IF, 4), ADD, HALT, ADD);
            // Words that were looked at are left alone: loops end, and what is behind them is looked at.
            fault(0, -1, w(GOTO, 2), w(GOTO, 0), w(GOTO, 1));
            fault(3, 2, w(PUSH, 0), w(IF, 0), POP);
            fault(3, 4, w(PUSH, 0), w(IF, 0), w(LOAD, 0), w(UNLESS, 0), ADD);
        });
        Check.test("(Told at the one that is looked at.)", () -> {
            fault(5, 2, w(LOAD, 0), w(IF, 3), w(PUSH, 1), HALT);
            fault(6, 2, w(GOTO, 2), HALT, w(PUSH, 0));
            fault(5, 2, w(GOTO, 1), w(PUSH, 0), w(GOTO, 0));
        });
    }
}
