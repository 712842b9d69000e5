/**
 * Many runs of mixed calls, each answer held against a model that keeps numbers and errors
 * as the document tells them, without parts. Every run has a seed of its own, which must not be seen.
 */
public final class ModelTest {
    private static final int RUNS = 3000;
    private static final int CALLS = 512;
    private static final int SLOTS = 12;

    private static final boolean[] held = new boolean[SLOTS];
    private static final long[] number = new long[SLOTS];
    private static final long[] error = new long[SLOTS];
    private static long state = 1;

    public static void main(String[] args) {
        for (int run = 0; run < RUNS; run++) {
            Due.begin("run " + run);
            for (int slot = 0; slot < SLOTS; slot++) {
                held[slot] = false;
            }
            SharedMachine x = new SharedMachine(any());
            for (int call = 0; call < CALLS; call++) {
                oneCall(x);
            }
        }
        Due.end();
    }

    /** A fixed row of numbers, so that a fault is found again. */
    private static int any() {
        state = state * 6364136223846793005L + 1442695040888963407L;
        return (int) (state >>> 32);
    }

    private static int below(int bound) {
        return Math.floorMod(any(), bound);
    }

    private static int anySlot() {
        switch (below(40)) {
            case 0: return -1;
            case 1: return SLOTS;
            case 2: return any();
            // Few slots meet often: the same one twice in a call, and results used again.
            default: return below(4) == 0 ? below(SLOTS) : below(5);
        }
    }

    private static int anyNumber() {
        switch (below(8)) {
            case 0: return any();
            case 1: return 251 * (below(5) - 2);
            case 2: return below(2) == 0 ? Integer.MIN_VALUE : Integer.MAX_VALUE;
            default: return below(11) - 5;
        }
    }

    private static void oneCall(SharedMachine x) {
        int to = anySlot();
        int a = anySlot();
        int b = anySlot();
        int n = anyNumber();
        String rest = "(" + to + ", " + a + ", " + b + ", " + n + ")";
        switch (below(16)) {
            case 0: case 1: Due.is("put" + rest, x.put(to, n), put(to, n)); break;
            case 2: Due.is("add" + rest, x.add(to, a, b), linear(to, a, 1, b, 1, 0)); break;
            case 3: Due.is("subtract" + rest, x.subtract(to, a, b), linear(to, a, 1, b, -1, 0)); break;
            case 4: Due.is("scale" + rest, x.scale(to, a, n), linear(to, a, n, a, 0, 0)); break;
            case 5: Due.is("shift" + rest, x.shift(to, a, n), linear(to, a, 1, a, 0, n)); break;
            case 6: Due.is("multiply" + rest, x.multiply(to, a, b), multiply(to, a, b)); break;
            case 7: Due.is("power" + rest, x.power(to, a, n), power(to, a, n)); break;
            case 8: changeCall(x, a, n); break;
            case 9: Due.is("refresh" + rest, x.refresh(a), bad(a) ? -1 : held[a] ? 0 : -2); break;
            case 10: Due.is("clear" + rest, x.clear(to), clear(to)); break;
            case 11: Due.is("filled()", x.filled(), filled()); break;
            case 12: case 13: Due.is("same" + rest, x.same(a, b), same(a, b)); break;
            default: Due.is("open" + rest, x.open(a), open(a)); break;
        }
    }

    private static void changeCall(SharedMachine x, int slot, int n) {
        int party = below(20) == 0 ? any() : below(5) - 1;
        if (below(2) == 0 && !bad(slot) && held[slot]) {
            // Errors must also come back to 0, or most slots would end up tampered with.
            n = (int) -error[slot];
        }
        Due.is("change(" + party + ", " + slot + ", " + n + ")", x.change(party, slot, n), change(party, slot, n));
    }

    private static boolean bad(int slot) {
        return slot < 0 || slot > 11;
    }

    private static int set(int slot, long newNumber, long newError) {
        held[slot] = true;
        number[slot] = Math.floorMod(newNumber, 251L);
        error[slot] = Math.floorMod(newError, 251L);
        return 0;
    }

    private static int put(int slot, int n) {
        return bad(slot) ? -1 : set(slot, n, 0);
    }

    private static int linear(int to, int a, long u, int b, long v, long plus) {
        if (bad(to) || bad(a) || bad(b)) return -1;
        if (!held[a] || !held[b]) return -2;
        return set(to, u * number[a] + v * number[b] + plus, u * error[a] + v * error[b]);
    }

    private static int multiply(int to, int a, int b) {
        if (bad(to) || bad(a) || bad(b)) return -1;
        if (!held[a] || !held[b]) return -2;
        if (error[a] != 0 || error[b] != 0) return -3;
        return set(to, number[a] * number[b], 0);
    }

    private static int power(int to, int a, int n) {
        if (bad(to) || bad(a)) return -1;
        if (!held[a]) return -2;
        if (error[a] != 0) return -3;
        java.math.BigInteger base = java.math.BigInteger.valueOf(number[a]);
        return set(to, base.pow(n & 15).mod(java.math.BigInteger.valueOf(251)).longValue(), 0);
    }

    private static int change(int party, int slot, int n) {
        if (bad(slot)) return -1;
        if (party < 0 || party > 2) return -4;
        if (!held[slot]) return -2;
        return set(slot, number[slot], error[slot] + n);
    }

    private static int clear(int slot) {
        if (bad(slot)) return -1;
        int answer = held[slot] ? 1 : 0;
        held[slot] = false;
        return answer;
    }

    private static int open(int slot) {
        if (bad(slot)) return -1;
        if (!held[slot]) return -2;
        return error[slot] != 0 ? -3 : (int) number[slot];
    }

    private static boolean same(int a, int b) {
        return !bad(a) && !bad(b) && held[a] && held[b] && error[a] == error[b] && number[a] == number[b];
    }

    private static int filled() {
        int count = 0;
        for (boolean one : held) {
            count += one ? 1 : 0;
        }
        return count;
    }
}
