import java.util.ArrayList;
import java.util.HashMap;
import java.util.List;
import java.util.Map;
import java.util.TreeMap;
import java.util.TreeSet;

/**
 * The document once more, written another way (texts for values, maps for all that has an address), so that slips
 * of the class show as differences. It shares no code with the class.
 */
final class Model {
    static final class Step {
        final int address;
        final boolean zero;
        int guard = -1;

        Step(int address, boolean zero) {
            this.address = address;
            this.zero = zero;
        }
    }

    static final class Guard {
        int address;
        int fails;
        int cuts;
        Trace bridge;
    }

    static final class Trace {
        List<Step> steps;
        final List<Guard> guards = new ArrayList<>();
        int values;
        int folded;
        int begun;
        int round;

        int bridges() {
            int n = 0;
            for (Guard g : guards) {
                n += g.bridge != null ? 1 : 0;
            }
            return n;
        }
    }

    int threshold;
    List<Integer> words;
    int state;
    int place;
    int pc;
    int[] locals;
    int[] memory;
    List<Integer> stack;
    List<Integer> out;
    long[] counts;
    Map<Integer, Integer> heat;
    Map<Integer, Integer> cuts;
    TreeMap<Integer, Trace> traces;
    int head;
    Guard guard;
    int entryHeight;
    List<Step> recorded;

    Model(int threshold) {
        this.threshold = threshold < 1 || threshold > 1000 ? 3 : threshold;
        reset();
    }

    /** One that does plain steps alone. */
    static Model plain() {
        Model m = new Model(1);
        m.threshold = Integer.MAX_VALUE;
        return m;
    }

    void reset() {
        words = new ArrayList<>();
        state = 0;
        place = -1;
        pc = 0;
        locals = new int[16];
        memory = new int[32];
        stack = new ArrayList<>();
        out = new ArrayList<>();
        counts = new long[6];
        heat = new HashMap<>();
        cuts = new HashMap<>();
        traces = new TreeMap<>();
        head = -1;
        guard = null;
    }

    int op(int a) {
        return Math.floorMod(words.get(a), 64);
    }

    int arg(int a) {
        return Math.floorDiv(words.get(a), 64);
    }

    static boolean jump(int op) {
        return op >= 21 && op <= 23;
    }

    static int takes(int op) {
        if (op == 3 || op == 16 || op == 17 || op == 18 || op == 20 || op >= 22 && op <= 25) {
            return 1;
        }
        return op >= 4 && op <= 15 || op == 19 || op == 26 ? 2 : 0;
    }

    static int gives(int op) {
        if (op == 18 || op == 19) {
            return 2;
        }
        return op == 1 || op == 2 || op >= 4 && op <= 17 || op == 25 ? 1 : 0;
    }

    int poke(int a, int w) {
        if (a < 0 || a > words.size() || a == 200) {
            throw new IndexOutOfBoundsException();
        }
        if (state != 0) {
            throw new IllegalStateException();
        }
        if (a == words.size()) {
            words.add(w);
        } else {
            words.set(a, w);
        }
        return words.size();
    }

    int verify() {
        int fault = fault();
        if (fault == 0) {
            place = -1;
            state = state == 0 ? 1 : state;
        }
        return fault;
    }

    int fault() {
        int n = words.size();
        for (place = 0; place < n; place++) {
            if (op(place) > 26) {
                return 1;
            }
            int most = jump(op(place)) ? n - 1 : op(place) == 2 || op(place) == 3 ? 15 : Integer.MAX_VALUE;
            if (most != Integer.MAX_VALUE && (arg(place) < 0 || arg(place) > most)) {
                return 2;
            }
        }
        place = 0;
        if (n == 0) {
            return 6;
        }
        Map<Integer, Integer> reached = new HashMap<>();
        TreeSet<Integer> open = new TreeSet<>();
        reached.put(0, 0);
        open.add(0);
        while (!open.isEmpty()) {
            place = open.pollFirst();
            int op = op(place);
            int h = reached.get(place);
            if (h < takes(op)) {
                return 3;
            }
            h += gives(op) - takes(op);
            if (h > 16) {
                return 4;
            }
            List<Integer> next = new ArrayList<>();
            if (op != 0 && op != 21) {
                next.add(place + 1);
            }
            if (jump(op)) {
                next.add(arg(place));
            }
            for (int a : next) {
                if (a >= n) {
                    return 6;
                }
                Integer was = reached.putIfAbsent(a, h);
                if (was == null) {
                    open.add(a);
                } else if (was != h) {
                    return 5;
                }
            }
        }
        return 0;
    }

    int setLocal(int i, int v) {
        if (i < 0 || i > 15) {
            throw new IndexOutOfBoundsException();
        }
        if (state == 0 || state == 2) {
            throw new IllegalStateException();
        }
        int was = locals[i];
        locals[i] = v;
        return was;
    }

    void start() {
        if (state == 0) {
            throw new IllegalStateException();
        }
        state = 2;
        pc = 0;
        stack.clear();
        out.clear();
        memory = new int[32];
        counts[0] = 0;
        counts[1] = 0;
        head = -1;
        guard = null;
    }

    int run(int fuel) {
        if (fuel < 0 || fuel > 100000) {
            throw new IllegalArgumentException();
        }
        if (state != 2) {
            throw new IllegalStateException();
        }
        long end = counts[0] + fuel;
        boolean plain = false;
        while (counts[0] < end && state == 2) {
            if (head >= 0 && (recorded.size() == 48 || op(pc) == 0)) {
                cut();
            }
            Trace t = traces.get(pc);
            if (!plain && head < 0 && t != null && t.steps.size() <= end - counts[0]) {
                plain = !pass(t, end);
            } else {
                plainStep();
                plain = false;
            }
        }
        return state;
    }

    boolean pass(Trace t, long end) {
        counts[2]++;
        t.begun++;
        Step stop = follow(t);
        if (stop != null) {
            Guard g = t.guards.get(stop.guard);
            g.fails++;
            if (g.bridge != null) {
                if (g.bridge.steps.size() > end - counts[0] || follow(g.bridge) != null) {
                    return false;
                }
            } else {
                if (g.fails >= threshold && g.cuts < 3 && t.bridges() < 4) {
                    begin(keyOf(t), g);
                }
                return false;
            }
        }
        counts[3]++;
        t.round++;
        return true;
    }

    int keyOf(Trace t) {
        for (Map.Entry<Integer, Trace> e : traces.entrySet()) {
            if (e.getValue() == t) {
                return e.getKey();
            }
        }
        throw new AssertionError();
    }

    /** The step before which the path was left, or null. */
    Step follow(Trace t) {
        for (Step s : t.steps) {
            if (s.address != pc) {
                throw new AssertionError("a path that is not the recorded one");
            }
            int op = op(pc);
            boolean zero = !stack.isEmpty() && stack.get(stack.size() - 1) == 0;
            if ((op == 22 || op == 23) && zero != s.zero || (op == 7 || op == 8) && zero) {
                return s;
            }
            execute();
            counts[0]++;
            counts[1]++;
        }
        return null;
    }

    void begin(int a, Guard g) {
        counts[4]++;
        head = a;
        guard = g;
        entryHeight = stack.size();
        recorded = new ArrayList<>();
    }

    void cut() {
        counts[5]++;
        if (guard != null) {
            guard.cuts++;
            guard.fails = 0;
        } else {
            heat.put(head, 0);
            cuts.merge(head, 1, Integer::sum);
        }
        head = -1;
        guard = null;
    }

    void plainStep() {
        int from = pc;
        int op = op(pc);
        boolean zero = !stack.isEmpty() && stack.get(stack.size() - 1) == 0;
        if ((op == 7 || op == 8) && zero) {
            state = 4;
            if (head >= 0) {
                cut();
            }
            return;
        }
        boolean goes = execute();
        counts[0]++;
        boolean was = head >= 0;
        if (was) {
            recorded.add(new Step(from, zero));
        }
        if (goes && pc <= from) {
            int h = heat.merge(pc, 1, Integer::sum);
            if (h >= threshold && !was && !traces.containsKey(pc) && cuts.getOrDefault(pc, 0) < 3
                    && traces.size() < 16) {
                begin(pc, null);
            }
        }
        if (was && pc == head) {
            Trace t = find(recorded, entryHeight);
            if (guard != null) {
                guard.bridge = t;
            } else {
                traces.put(head, t);
            }
            head = -1;
            guard = null;
        }
    }

    int pop() {
        return stack.remove(stack.size() - 1);
    }

    /** Whether a jump was done. */
    boolean execute() {
        int op = op(pc);
        int arg = arg(pc);
        int at = pc;
        pc++;
        if (op >= 4 && op <= 15) {
            int y = pop();
            stack.add(two(op, pop(), y));
        } else if (op == 0) {
            pc = at;
            state = 3;
        } else if (op == 1) {
            stack.add(arg);
        } else if (op == 2) {
            stack.add(locals[arg]);
        } else if (op == 3) {
            locals[arg] = pop();
        } else if (op == 16) {
            stack.add(0 - pop());
        } else if (op == 17) {
            stack.add(pop() == 0 ? 1 : 0);
        } else if (op == 18) {
            stack.add(stack.get(stack.size() - 1));
        } else if (op == 19) {
            stack.add(stack.remove(stack.size() - 2));
        } else if (op == 20) {
            pop();
        } else if (op == 21 || op == 22 && pop() != 0 || op == 23 && pop() == 0) {
            pc = arg;
            return true;
        } else if (op == 24) {
            out.add(pop());
        } else if (op == 25) {
            stack.add(memory[Math.floorMod(pop(), 32)]);
        } else if (op == 26) {
            int y = pop();
            memory[Math.floorMod(pop(), 32)] = y;
        }
        return false;
    }

    static int two(int op, int x, int y) {
        switch (op) {
            case 4: return x + y;
            case 5: return x - y;
            case 6: return x * y;
            case 7: return (int) ((long) x / y);
            case 8: return (int) ((long) x % y);
            case 9: return x & y;
            case 10: return x | y;
            case 11: return x ^ y;
            case 12: return (int) ((long) x << Math.floorMod(y, 32));
            case 13: return (int) Math.floorDiv((long) x, 1L << Math.floorMod(y, 32));
            case 14: return x < y ? 1 : 0;
            default: return x == y ? 1 : 0;
        }
    }

    /** Values are texts: "#5" a constant, "L3", "S0" what was there at first, "v7" what a step made. */
    Trace find(List<Step> steps, int height) {
        Trace t = new Trace();
        t.steps = steps;
        Map<Integer, String> local = new HashMap<>();
        List<String> st = new ArrayList<>();
        for (int i = 0; i < height; i++) {
            st.add("S" + i);
        }
        Map<String, String> made = new HashMap<>();
        Map<Integer, String> put = new HashMap<>();
        Map<String, String> peeked = new HashMap<>();
        TreeSet<String> known = new TreeSet<>();
        for (Step s : steps) {
            int op = op(s.address);
            int arg = arg(s.address);
            int n = takes(op);
            String y = n > 0 ? st.remove(st.size() - 1) : "";
            String x = n > 1 ? st.remove(st.size() - 1) : "";
            boolean asks = op == 22 || op == 23 || op == 7 || op == 8;
            if (asks && y.charAt(0) != '#' && known.add(y)) {
                Guard g = new Guard();
                g.address = s.address;
                s.guard = t.guards.size();
                t.guards.add(g);
            }
            if (op == 1) {
                st.add("#" + arg);
            } else if (op == 2) {
                st.add(local.getOrDefault(arg, "L" + arg));
            } else if (op == 3) {
                local.put(arg, y);
            } else if (op >= 4 && op <= 17) {
                boolean constant = y.charAt(0) == '#' && (n == 1 || x.charAt(0) == '#');
                String key = op + " " + x + " " + y;
                if (constant) {
                    t.folded++;
                    int b = Integer.parseInt(y.substring(1));
                    int one = op == 16 ? 0 - b : b == 0 ? 1 : 0;
                    st.add("#" + (n == 1 ? one : two(op, Integer.parseInt(x.substring(1)), b)));
                } else {
                    if (!made.containsKey(key)) {
                        made.put(key, "v" + t.values++);
                    }
                    st.add(made.get(key));
                }
            } else if (op == 18) {
                st.add(y);
                st.add(y);
            } else if (op == 19) {
                st.add(y);
                st.add(x);
            } else if (op == 25 && y.charAt(0) == '#') {
                int where = Math.floorMod(Integer.parseInt(y.substring(1)), 32);
                if (!put.containsKey(where)) {
                    put.put(where, "v" + t.values++);
                }
                st.add(put.get(where));
            } else if (op == 25) {
                if (!peeked.containsKey(y)) {
                    peeked.put(y, "v" + t.values++);
                }
                st.add(peeked.get(y));
            } else if (op == 26) {
                peeked.clear();
                if (x.charAt(0) == '#') {
                    put.put(Math.floorMod(Integer.parseInt(x.substring(1)), 32), y);
                } else {
                    put.clear();
                }
            }
        }
        return t;
    }

    boolean invalidate(int a) {
        if (a < 0 || a >= words.size()) {
            throw new IndexOutOfBoundsException();
        }
        heat.remove(a);
        cuts.remove(a);
        if (head == a) {
            head = -1;
            guard = null;
        }
        return traces.remove(a) != null;
    }

    int output(int i) {
        if (i < 0 || i >= out.size() || i < out.size() - 200) {
            throw new IndexOutOfBoundsException();
        }
        return out.get(i);
    }

    int recording() {
        return head < 0 ? -1 : guard == null ? head : head + 1000;
    }
}
