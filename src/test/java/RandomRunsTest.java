import java.util.ArrayList;
import java.util.List;
import java.util.Map;
import java.util.Random;

/** Random codes and calls: the class answers as the model does, and what comes out is what plain steps give. */
public final class RandomRunsTest {
    private static final int RUNS = 6000;
    private static final long[] seen = new long[12];

    public static void main(String[] args) {
        for (int seed = 0; seed < RUNS; seed++) {
            oneRun(seed);
        }
        for (int seed = 0; seed < 20000; seed++) {
            verifyRandomWords(new Random(seed));
        }
        String[] names = {"passes", "rounds", "recordings", "cuts", "bridges", "broken", "halted", "cold", "guardCuts",
            "fullTables", "bridgeRounds", "longOutputs"};
        for (int i = 0; i < names.length; i++) {
            System.out.println("  seen " + names[i] + ": " + seen[i]);
            Check.same("random runs have seen " + names[i], seen[i] > 0, true);
        }
        Check.finish("RandomRunsTest");
    }

    private static void oneRun(int seed) {
        Random random = new Random(seed);
        int threshold = random.nextInt(4) == 0 ? 1 + random.nextInt(8) : 1 + random.nextInt(3);
        LoopTracer x = new LoopTracer(threshold);
        Model m = new Model(threshold);
        Model plain = Model.plain();
        List<Integer> code = new Coder(random).code();
        for (int a = 0; a < code.size(); a++) {
            int address = a;
            Check.same("poke", x.poke(a, code.get(a)), m.poke(address, code.get(a)));
            plain.poke(a, code.get(a));
        }
        plain.verify();
        Check.same("seed " + seed + " verify", x.verify(), m.verify());
        Check.same("seed " + seed + " verified", m.state, 1);
        for (int i = 0; i < 40; i++) {
            String where = "seed " + seed + " call " + i;
            call(where, random, x, m, plain);
            compare(where, x, m);
            comparePlain(where, x, plain);
        }
        look(m);
    }

    private static void call(String where, Random random, LoopTracer x, Model m, Model plain) {
        int kind = random.nextInt(20);
        if (m.state != LoopTracer.RUNNING && kind < 12) {
            int local = random.nextInt(8);
            int v = random.nextInt(12) - 2;
            Check.same(where + " setLocal", x.setLocal(local, v), m.setLocal(local, v));
            plain.setLocal(local, v);
            x.start();
            m.start();
            plain.start();
        } else if (kind < 18) {
            int fuel = random.nextInt(3) == 0 ? random.nextInt(4000) : random.nextInt(90);
            Check.is(where + " run(" + fuel + ")", () -> x.run(fuel), Check.answer(() -> m.run(fuel)));
            Check.answer(() -> plain.run(fuel));
        } else if (kind == 18) {
            int a = random.nextInt(m.words.size());
            int address = m.traces.isEmpty() || random.nextBoolean() ? a : m.traces.firstKey();
            Check.is(where + " invalidate", () -> x.invalidate(address), Check.answer(() -> m.invalidate(address)));
        } else if (random.nextInt(4) == 0) {
            x.start();
            m.start();
            plain.start();
        }
    }

    private static void compare(String where, LoopTracer x, Model m) {
        Check.same(where + " state", x.state(), m.state);
        Check.same(where + " address", x.address(), m.pc);
        Check.same(where + " place", x.place(), m.place);
        for (int i = 0; i < 16; i++) {
            Check.same(where + " local", x.local(i), m.locals[i]);
        }
        for (int i = 0; i < 32; i++) {
            Check.same(where + " memory", x.memory(i), m.memory[i]);
        }
        Check.same(where + " height", x.height(), m.stack.size());
        for (int i = 0; i < m.stack.size(); i++) {
            Check.same(where + " stack", x.stack(i), m.stack.get(i));
        }
        Check.same(where + " emitted", x.emitted(), m.out.size());
        for (int i = Math.max(0, m.out.size() - 202); i <= m.out.size(); i++) {
            int k = i;
            Check.is(where + " output", () -> x.output(k), Check.answer(() -> m.output(k)));
        }
        for (int i = 0; i < 6; i++) {
            Check.same(where + " steps " + i, x.steps(i), m.counts[i]);
        }
        for (int a = 0; a < m.words.size(); a++) {
            Check.same(where + " heat " + a, x.heat(a), m.heat.getOrDefault(a, 0));
        }
        Check.same(where + " recording", x.recording(), m.recording());
        compareTraces(where, x, m);
    }

    private static void comparePlain(String where, LoopTracer x, Model plain) {
        Check.same(where + " plain state", x.state(), plain.state);
        Check.same(where + " plain address", x.address(), plain.pc);
        Check.same(where + " plain steps", x.steps(0), plain.counts[0]);
        Check.same(where + " plain emitted", x.emitted(), plain.out.size());
        for (int i = Math.max(0, plain.out.size() - 200); i < plain.out.size(); i++) {
            Check.same(where + " plain output", x.output(i), plain.out.get(i));
        }
        for (int i = 0; i < 16; i++) {
            Check.same(where + " plain local", x.local(i), plain.locals[i]);
        }
    }

    private static void compareTraces(String where, LoopTracer x, Model m) {
        Check.same(where + " traces", x.traces(), m.traces.size());
        Check.noSuch(where + " traceAt", () -> x.traceAt(m.traces.size()));
        int i = 0;
        for (Map.Entry<Integer, Model.Trace> e : m.traces.entrySet()) {
            Check.same(where + " traceAt " + i, x.traceAt(i), e.getKey());
            i++;
            Model.Trace t = e.getValue();
            int a = e.getKey();
            int[] due = {t.steps.size(), t.guards.size(), t.values, t.folded, t.begun, t.round, t.bridges()};
            for (int what = 0; what < due.length; what++) {
                Check.same(where + " trace " + a + " " + what, x.trace(a, what), due[what]);
            }
            for (int k = 0; k < t.guards.size(); k++) {
                compareGuard(where, x, a, k, t.guards.get(k));
            }
            Check.noSuch(where + " guard", () -> x.guard(a, t.guards.size(), 0));
        }
    }

    private static void compareGuard(String where, LoopTracer x, int a, int k, Model.Guard g) {
        Model.Trace b = g.bridge;
        int[] due = {g.address, g.fails, b == null ? 0 : b.steps.size(), g.cuts, b == null ? 0 : b.guards.size(),
            b == null ? 0 : b.values, b == null ? 0 : b.folded};
        for (int what = 0; what < due.length; what++) {
            Check.same(where + " guard " + a + " " + k + " " + what, x.guard(a, k, what), due[what]);
        }
    }

    private static void look(Model m) {
        seen[0] += m.counts[2];
        seen[1] += m.counts[3];
        seen[2] += m.counts[4];
        seen[3] += m.counts[5];
        for (Model.Trace t : m.traces.values()) {
            seen[4] += t.bridges();
            seen[10] += t.bridges() > 0 && t.round > 0 ? 1 : 0;
            for (Model.Guard g : t.guards) {
                seen[8] += g.cuts > 0 ? 1 : 0;
            }
        }
        seen[5] += m.state == 4 ? 1 : 0;
        seen[6] += m.state == 3 ? 1 : 0;
        for (int c : m.cuts.values()) {
            seen[7] += c >= 3 ? 1 : 0;
        }
        seen[9] += m.traces.size() >= 16 ? 1 : 0;
        seen[11] += m.out.size() > 200 ? 1 : 0;
    }

    private static void verifyRandomWords(Random random) {
        LoopTracer x = new LoopTracer(2);
        Model m = new Model(2);
        int n = 1 + random.nextInt(30);
        int[] depth = new int[1];
        for (int a = 0; a < n; a++) {
            int op = random.nextInt(60) == 0 ? random.nextInt(64) : random.nextInt(27);
            if (random.nextBoolean() && depth[0] < 3) {
                op = 1 + random.nextInt(2);
            }
            depth[0] = Math.max(0, depth[0] + (op == 1 || op == 2 ? 1 : op < 22 ? -1 : 0));
            int arg = random.nextInt(40) == 0 ? random.nextInt(50) - 10 : random.nextInt(Math.min(n, 16));
            x.poke(a, arg * 64 + op);
            m.poke(a, arg * 64 + op);
        }
        Check.same("verify of random words", x.verify(), m.verify());
        Check.same("place of random words", x.place(), m.place);
        Check.same("state of random words", x.state(), m.state);
    }

    /** Writes codes with nested loops, branches, memory and now and then a division that may break. */
    private static final class Coder {
        private final Random random;
        private final List<Integer> words = new ArrayList<>();
        private int loops = 0;

        Coder(Random random) {
            this.random = random;
        }

        List<Integer> code() {
            if (random.nextInt(25) == 0) {
                for (int i = 0; i < 18; i++) {
                    tinyLoop();
                }
            }
            int height = random.nextInt(3);
            for (int i = 0; i < height; i++) {
                put(1, random.nextInt(9) - 2);
            }
            int rounds = 1 + random.nextInt(4);
            for (int i = 0; i < rounds && words.size() < 100; i++) {
                loop(0, height);
            }
            put(0, 0);
            return words;
        }

        private void put(int op, int arg) {
            words.add(arg * 64 + op);
        }

        private void tinyLoop() {
            put(1, 3 + random.nextInt(6));
            put(3, 15);
            int head = words.size();
            put(2, 15);
            put(1, 1);
            put(5, 0);
            put(18, 0);
            put(3, 15);
            put(22, head);
        }

        private void loop(int depth, int height) {
            int counter = 8 + loops % 8;
            loops++;
            put(1, depth == 0 ? 4 + random.nextInt(60) : 1 + random.nextInt(8));
            put(3, counter);
            int head = words.size();
            int parts = 1 + random.nextInt(4);
            for (int i = 0; i < parts; i++) {
                statement(depth, height);
            }
            put(2, counter);
            put(1, 1);
            put(5, 0);
            put(18, 0);
            put(3, counter);
            if (random.nextInt(3) == 0) {
                put(17, 0);
                put(23, head);
            } else if (random.nextInt(3) == 0) {
                put(23, words.size() + 2);
                put(21, head);
            } else {
                put(22, head);
            }
        }

        private void statement(int depth, int height) {
            if (words.size() > 150) {
                return;
            }
            int kind = random.nextInt(11);
            if (kind < 2 && depth < 2) {
                loop(depth + 1, height);
            } else if (kind < 5) {
                expression(2);
                int hole = words.size();
                put(22 + random.nextInt(2), 0);
                statement(depth, height);
                if (random.nextInt(12) == 0) {
                    put(0, 0);
                }
                int op = Math.floorMod(words.get(hole), 64);
                words.set(hole, words.size() * 64 + op);
            } else if (kind < 7) {
                expression(3);
                put(3, random.nextInt(8));
            } else if (kind == 7) {
                expression(2);
                put(24, 0);
            } else if (kind == 8) {
                place();
                expression(2);
                put(26, 0);
            } else if (height > 0) {
                put(random.nextBoolean() ? 18 : 1, 2);
                put(random.nextInt(4) == 0 ? 20 : 4 + random.nextInt(3), 0);
                if (words.get(words.size() - 1) != 20 && random.nextInt(2) == 0) {
                    put(18, 0);
                    put(24, 0);
                }
            } else {
                put(2, random.nextInt(8));
                put(24, 0);
            }
        }

        private void place() {
            if (random.nextBoolean()) {
                put(1, random.nextInt(70) - 3);
            } else {
                put(2, random.nextInt(3));
            }
        }

        private void expression(int depth) {
            int kind = random.nextInt(depth <= 0 ? 3 : 9);
            if (kind == 0) {
                put(1, random.nextInt(7) - 2);
            } else if (kind < 3) {
                put(2, random.nextInt(16));
            } else if (kind == 3) {
                place();
                put(25, 0);
            } else if (kind == 4) {
                expression(depth - 1);
                put(16 + random.nextInt(2), 0);
            } else {
                expression(depth - 1);
                expression(depth - 1);
                if (random.nextInt(6) == 0) {
                    put(19, 0);
                }
                int op = 4 + random.nextInt(12);
                if ((op == 7 || op == 8) && random.nextInt(3) > 0) {
                    put(1, 1);
                    put(10, 0);
                }
                put(op, 0);
            }
        }
    }
}
