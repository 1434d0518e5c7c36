import java.util.Arrays;

/** Ops, words, small codes and machines that the tests share. */
abstract class Codes {
    static final int HALT = 0, PUSH = 1, LOAD = 2, STORE = 3, ADD = 4, SUB = 5, MUL = 6, DIV = 7, REM = 8;
    static final int AND = 9, OR = 10, XOR = 11, SHL = 12, SHR = 13, LESS = 14, SAME = 15, NEG = 16, NOT = 17;
    static final int DUP = 18, SWAP = 19, POP = 20, GOTO = 21, IF = 22, UNLESS = 23, EMIT = 24, PEEK = 25, POKE = 26;
    static final int MIN = Integer.MIN_VALUE, MAX = Integer.MAX_VALUE;
    /** The least and the greatest number that fit in a word's argument. */
    static final int LEAST = -33554432, GREATEST = 33554431;

    static int w(int op, int argument) {
        return argument * 64 + op;
    }

    static void load(LoopTracer x, int... words) {
        for (int a = 0; a < words.length; a++) {
            x.poke(a, words[a]);
        }
    }

    static LoopTracer loaded(int threshold, int... words) {
        LoopTracer x = new LoopTracer(threshold);
        load(x, words);
        return x;
    }

    static LoopTracer verified(int threshold, int... words) {
        LoopTracer x = loaded(threshold, words);
        Check.same("verify", x.verify(), 0);
        return x;
    }

    static LoopTracer started(int threshold, int... words) {
        LoopTracer x = verified(threshold, words);
        x.start();
        return x;
    }

    /** A loop for ever round the words, recorded once. */
    static LoopTracer recordedLoop(int... words) {
        int[] all = Arrays.copyOf(words, words.length + 1);
        all[words.length] = w(GOTO, 0);
        LoopTracer x = started(1, all);
        x.run(2 * all.length);
        Check.same("recorded", x.traces(), 1);
        return x;
    }

    /** Counts local 0 down from n and goes back to 2 while it is not 0: a trace of 6 steps. */
    static int[] countDown(int n) {
        return new int[] {w(PUSH, n), w(STORE, 0), w(LOAD, 0), w(PUSH, 1), SUB, DUP, w(STORE, 0), w(IF, 2), HALT};
    }

    /** Of numbers counted down from n in local 0 those that are not even are added in local 1. */
    static int[] oddSum(int n) {
        return new int[] {w(PUSH, n), w(STORE, 0), w(LOAD, 0), w(PUSH, 1), AND, w(UNLESS, 10), w(LOAD, 1), w(LOAD, 0),
            ADD, w(STORE, 1), w(LOAD, 0), w(PUSH, 1), SUB, DUP, w(STORE, 0), w(IF, 2), HALT};
    }

    /** From 0 through n words and back: n steps a round, and nothing else. */
    static int[] ring(int n) {
        int[] words = new int[n];
        for (int a = 0; a < n; a++) {
            words[a] = w(GOTO, (a + 1) % n);
        }
        return words;
    }

    /** As many loops of 4 rounds as wanted, one behind the other, each of 8 words and with its head at 8 k + 2. */
    static int[] loops(int wanted) {
        int[] words = new int[wanted * 8 + 1];
        for (int k = 0; k < wanted; k++) {
            int[] one = countDown(4);
            one[7] = w(IF, 8 * k + 2);
            System.arraycopy(one, 0, words, 8 * k, 8);
        }
        return words;
    }

    /**
     * Local 0 is 1 and 0 by turns. Rounds with 0 go through 0 to 5, those with 1 leave that at 4 for so many words
     * at 6, .. that lead back to 0.
     */
    static int[] byTurns(int detour) {
        int[] words = new int[6 + detour];
        System.arraycopy(new int[] {w(LOAD, 0), NOT, DUP, w(STORE, 0), w(IF, 6), w(GOTO, 0)}, 0, words, 0, 6);
        for (int a = 6; a < words.length; a++) {
            words[a] = w(GOTO, a + 1 < words.length ? a + 1 : 0);
        }
        return words;
    }

    static int[] join(int[]... parts) {
        int[] all = new int[0];
        for (int[] part : parts) {
            int before = all.length;
            all = Arrays.copyOf(all, before + part.length);
            System.arraycopy(part, 0, all, before, part.length);
        }
        return all;
    }

    static int[] many(int n, int... words) {
        int[] all = new int[n * words.length];
        for (int i = 0; i < all.length; i++) {
            all[i] = words[i % words.length];
        }
        return all;
    }

    static void stepsAre(String when, LoopTracer x, long... due) {
        for (int what = 0; what < due.length; what++) {
            Check.same(when + " steps(" + what + ")", x.steps(what), due[what]);
        }
    }

    static void traceIs(LoopTracer x, int address, int... due) {
        for (int what = 0; what < due.length; what++) {
            int w = what;
            Check.is("trace(" + address + ", " + what + ")", () -> x.trace(address, w), due[what]);
        }
    }

    static void guardIs(LoopTracer x, int address, int k, int... due) {
        for (int what = 0; what < due.length; what++) {
            int w = what;
            Check.is("guard(" + address + ", " + k + ", " + what + ")", () -> x.guard(address, k, w), due[what]);
        }
    }

    static void fault(int due, int place, int... words) {
        LoopTracer x = loaded(3, words);
        String what = "fault " + due + " at " + place + " of " + Arrays.toString(words);
        Check.same(what, x.verify(), due);
        Check.same(what + " place", x.place(), place);
        Check.same(what + " state", x.state(), due == 0 ? LoopTracer.READY : LoopTracer.LOADING);
    }
}
