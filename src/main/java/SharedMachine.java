/** A calculator that keeps its numbers in three parts, none of which says anything by itself. */
public final class SharedMachine {
    public static final int BAD_SLOT = -1;
    public static final int EMPTY = -2;
    public static final int TAMPERED = -3;
    public static final int BAD_PARTY = -4;

    private static final int DONE = 0;
    private static final int SLOTS = 12;
    private static final int PARTIES = 3;
    private static final int PARTS = 36;
    private static final int MODULUS = 251;

    // The three parts of a slot add up to its number and its error: a party that
    // changes its part moves the sum, and the error says by how much.
    private final int[] parts = new int[PARTS];
    private final int[] errors = new int[SLOTS];
    private final boolean[] held = new boolean[SLOTS];
    private int source;

    public SharedMachine(int seed) {
        source = seed;
    }

    public int put(int slot, int x) {
        if (!isSlot(slot)) {
            return BAD_SLOT;
        }
        fill(slot, x);
        return DONE;
    }

    public int add(int to, int a, int b) {
        int refusal = refusalOf(to, a, b);
        if (refusal == DONE) {
            combine(to, a, 1, b, 1);
        }
        return refusal;
    }

    public int subtract(int to, int a, int b) {
        int refusal = refusalOf(to, a, b);
        if (refusal == DONE) {
            combine(to, a, 1, b, -1);
        }
        return refusal;
    }

    public int scale(int to, int a, int x) {
        int refusal = refusalOf(to, a, a);
        if (refusal == DONE) {
            combine(to, a, x, a, 0);
        }
        return refusal;
    }

    public int shift(int to, int a, int x) {
        int refusal = refusalOf(to, a, a);
        if (refusal == DONE) {
            combine(to, a, 1, a, 0);
            // One party alone adds x: the sum of the parts moves by x once.
            changePart(0, to, x);
        }
        return refusal;
    }

    public int multiply(int to, int a, int b) {
        int refusal = refusalOfUntampered(to, a, b);
        if (refusal == DONE) {
            int left = sumOfParts(a);
            int right = sumOfParts(b);
            fill(to, left * right);
        }
        return refusal;
    }

    public int power(int to, int a, int n) {
        int refusal = refusalOfUntampered(to, a, a);
        if (refusal == DONE) {
            int base = sumOfParts(a);
            int result = raised(base, n & 15);
            fill(to, result);
        }
        return refusal;
    }

    public int change(int party, int slot, int x) {
        if (!isSlot(slot)) {
            return BAD_SLOT;
        }
        if (party < 0 || party >= PARTIES) {
            return BAD_PARTY;
        }
        if (!held[slot]) {
            return EMPTY;
        }
        changePart(party, slot, x);
        int moved = reduced(x);
        errors[slot] = reduced(errors[slot] + moved);
        return DONE;
    }

    public int refresh(int slot) {
        int refusal = refusalOf(slot, slot, slot);
        if (refusal == DONE) {
            splitAnew(slot);
        }
        return refusal;
    }

    public int clear(int slot) {
        if (!isSlot(slot)) {
            return BAD_SLOT;
        }
        int answer = held[slot] ? 1 : 0;
        makeEmpty(slot);
        return answer;
    }

    public int open(int slot) {
        int refusal = refusalOfUntampered(slot, slot, slot);
        return refusal == DONE ? sumOfParts(slot) : refusal;
    }

    public boolean same(int a, int b) {
        // With equal errors the sums of the parts differ just where the numbers do.
        return refusalOf(a, a, b) == DONE
            && errors[a] == errors[b]
            && sumOfParts(a) == sumOfParts(b);
    }

    public int filled() {
        int count = 0;
        for (int slot = 0; slot < SLOTS; slot++) {
            if (held[slot]) {
                count++;
            }
        }
        return count;
    }

    private static boolean isSlot(int slot) {
        return slot >= 0 && slot < SLOTS;
    }

    private static int reduced(int x) {
        int rest = x % MODULUS;
        return rest < 0 ? rest + MODULUS : rest;
    }

    private static int raised(int base, int exponent) {
        int result = 1;
        for (int i = 0; i < exponent; i++) {
            result = reduced(result * base);
        }
        return result;
    }

    private int refusalOf(int to, int a, int b) {
        if (!isSlot(to) || !isSlot(a) || !isSlot(b)) {
            return BAD_SLOT;
        }
        return held[a] && held[b] ? DONE : EMPTY;
    }

    private int refusalOfUntampered(int to, int a, int b) {
        int refusal = refusalOf(to, a, b);
        if (refusal != DONE) {
            return refusal;
        }
        return errors[a] == 0 && errors[b] == 0 ? DONE : TAMPERED;
    }

    private void makeEmpty(int slot) {
        held[slot] = false;
        errors[slot] = 0;
        for (int party = 0; party < PARTIES; party++) {
            parts[slot * PARTIES + party] = 0;
        }
    }

    private void fill(int slot, int x) {
        makeEmpty(slot);
        changePart(0, slot, x);
        splitAnew(slot);
        held[slot] = true;
    }

    /** What two parts get from the source is taken off the first, so that the sum stays. */
    private void splitAnew(int slot) {
        for (int party = 1; party < PARTIES; party++) {
            int moved = nextPart();
            changePart(party, slot, moved);
            changePart(0, slot, -moved);
        }
    }

    private int nextPart() {
        source = source * 1103515245 + 12345;
        // The low bits of such a row repeat soon: only the high ones are used.
        return (source >>> 16) % MODULUS;
    }

    private int sumOfParts(int slot) {
        int sum = 0;
        for (int party = 0; party < PARTIES; party++) {
            sum += parts[slot * PARTIES + party];
        }
        return reduced(sum);
    }

    /** Every party works on its own parts alone, so that no number is put together here. */
    private void combine(int to, int a, int timesA, int b, int timesB) {
        int factorA = reduced(timesA);
        int factorB = reduced(timesB);
        for (int party = 0; party < PARTIES; party++) {
            int partA = parts[a * PARTIES + party];
            int partB = parts[b * PARTIES + party];
            parts[to * PARTIES + party] = reduced(factorA * partA + factorB * partB);
        }
        errors[to] = reduced(factorA * errors[a] + factorB * errors[b]);
        held[to] = true;
        // Else the parts of a slot less itself, or of 0 times a slot, would all be 0:
        // one of them would tell the number.
        splitAnew(to);
    }

    private void changePart(int party, int slot, int x) {
        int moved = reduced(x);
        int index = slot * PARTIES + party;
        parts[index] = reduced(parts[index] + moved);
    }
}
