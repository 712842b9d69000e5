/** The promises of the document one by one: ordinary inputs, edges and wrong inputs. */
public final class PromisesTest {
    private static final int MIN = Integer.MIN_VALUE;
    private static final int MAX = Integer.MAX_VALUE;
    private static final int[] NO_SLOTS = {-1, 12, MIN, MAX};
    private static final int[] SEEDS = {0, 1, -1, 7916, MIN, MAX};

    // MIN is -2147483648 and MAX 2147483647; these are the two modulo 251.
    private static final int MIN_REDUCED = 64;
    private static final int MAX_REDUCED = 186;

    public static void main(String[] args) {
        for (int seed : SEEDS) {
            newObject(seed);
            put(seed);
            add(seed);
            subtract(seed);
            scale(seed);
            shift(seed);
            multiply(seed);
            power(seed);
            change(seed);
            refresh(seed);
            clear(seed);
            open(seed);
            same(seed);
            filled(seed);
            orderAndLimits(seed);
        }
        Due.end();
    }

    private static SharedMachine begin(int promise, int seed) {
        Due.begin("promise " + promise + ", seed " + seed);
        return new SharedMachine(seed);
    }

    /** Slot 0 holds 200, slot 1 holds 100, slot 2 holds 30 with the error 5, slot 3 holds 7; 4 to 11 are empty. */
    private static SharedMachine beginFilled(int promise, int seed) {
        SharedMachine x = begin(promise, seed);
        Due.is("put(0, 200)", x.put(0, 200), 0);
        Due.is("put(1, 100)", x.put(1, 100), 0);
        Due.is("put(2, 30)", x.put(2, 30), 0);
        Due.is("change(1, 2, 5)", x.change(1, 2, 5), 0);
        Due.is("put(3, 7)", x.put(3, 7), 0);
        return x;
    }

    /** What a refused call must leave as beginFilled made it. */
    private static void unchanged(SharedMachine x) {
        Due.is("open(0) after refusals", x.open(0), 200);
        Due.is("open(1) after refusals", x.open(1), 100);
        Due.is("open(2) after refusals", x.open(2), SharedMachine.TAMPERED);
        Due.is("open(3) after refusals", x.open(3), 7);
        for (int slot = 4; slot < 12; slot++) {
            Due.is("open(" + slot + ") after refusals", x.open(slot), SharedMachine.EMPTY);
        }
        Due.is("filled() after refusals", x.filled(), 4);
        errorIs(x, 2, 5, 30);
    }

    /** Looks at an error: a change by its opposite must bring the number back to light, and only that one. */
    private static void errorIs(SharedMachine x, int slot, int error, int number) {
        String name = "slot " + slot;
        Due.is(name + " tampered", x.open(slot), error == 0 ? number : SharedMachine.TAMPERED);
        Due.is(name + " change back", x.change(0, slot, -error), 0);
        Due.is(name + " number", x.open(slot), number);
        Due.is(name + " change again", x.change(2, slot, error), 0);
    }

    private static void newObject(int seed) {
        SharedMachine x = begin(1, seed);
        Due.is("filled()", x.filled(), 0);
        for (int slot = 0; slot < 12; slot++) {
            Due.is("open(" + slot + ")", x.open(slot), SharedMachine.EMPTY);
            Due.is("same(" + slot + ", " + slot + ")", x.same(slot, slot), false);
            Due.is("clear(" + slot + ")", x.clear(slot), 0);
        }
        SharedMachine y = new SharedMachine(seed);
        Due.is("put(0, 5)", x.put(0, 5), 0);
        Due.is("open(0) of another object", y.open(0), SharedMachine.EMPTY);
        Due.is("BAD_SLOT", SharedMachine.BAD_SLOT, -1);
        Due.is("EMPTY", SharedMachine.EMPTY, -2);
        Due.is("TAMPERED", SharedMachine.TAMPERED, -3);
        Due.is("BAD_PARTY", SharedMachine.BAD_PARTY, -4);
    }

    private static void put(int seed) {
        SharedMachine x = begin(2, seed);
        int[] given = {0, 1, 250, 251, 252, -1, -250, -251, -252, 502, MIN, MAX};
        int[] due = {0, 1, 250, 0, 1, 250, 1, 0, 250, 0, MIN_REDUCED, MAX_REDUCED};
        for (int i = 0; i < given.length; i++) {
            Due.is("put(" + i + ", " + given[i] + ")", x.put(i, given[i]), 0);
        }
        for (int i = 0; i < given.length; i++) {
            Due.is("open(" + i + ")", x.open(i), due[i]);
        }
        Due.is("change(0, 4, 9)", x.change(0, 4, 9), 0);
        Due.is("put(4, 8)", x.put(4, 8), 0);
        Due.is("open(4) put anew", x.open(4), 8);
        x = beginFilled(2, seed);
        for (int slot : NO_SLOTS) {
            Due.is("put(" + slot + ", 1)", x.put(slot, 1), SharedMachine.BAD_SLOT);
        }
        unchanged(x);
    }

    private static void add(int seed) {
        SharedMachine x = beginFilled(3, seed);
        for (int slot : NO_SLOTS) {
            Due.is("add(to " + slot + ")", x.add(slot, 0, 1), SharedMachine.BAD_SLOT);
            Due.is("add(a " + slot + ")", x.add(0, slot, 1), SharedMachine.BAD_SLOT);
            Due.is("add(b " + slot + ")", x.add(0, 1, slot), SharedMachine.BAD_SLOT);
            Due.is("add(empty, b " + slot + ")", x.add(0, 5, slot), SharedMachine.BAD_SLOT);
            Due.is("add(to " + slot + ", empty)", x.add(slot, 5, 5), SharedMachine.BAD_SLOT);
        }
        Due.is("add(0, 5, 1)", x.add(0, 5, 1), SharedMachine.EMPTY);
        Due.is("add(0, 1, 5)", x.add(0, 1, 5), SharedMachine.EMPTY);
        Due.is("add(5, 5, 5)", x.add(5, 5, 5), SharedMachine.EMPTY);
        unchanged(x);
        Due.is("add(11, 0, 1)", x.add(11, 0, 1), 0);
        Due.is("open(11)", x.open(11), 49);
        Due.is("add(10, 2, 2)", x.add(10, 2, 2), 0);
        errorIs(x, 10, 10, 60);
        Due.is("add(9, 3, 2)", x.add(9, 3, 2), 0);
        errorIs(x, 9, 5, 37);
        Due.is("add(9, 2, 3)", x.add(9, 2, 3), 0);
        errorIs(x, 9, 5, 37);
        Due.is("add(0, 0, 0)", x.add(0, 0, 0), 0);
        Due.is("open(0)", x.open(0), 149);
        Due.is("change(0, 3, -5)", x.change(0, 3, -5), 0);
        Due.is("add(8, 2, 3)", x.add(8, 2, 3), 0);
        Due.is("open(8): errors that cancel", x.open(8), 37);
        Due.is("add(2, 0, 1) over an error", x.add(2, 0, 1), 0);
        Due.is("open(2)", x.open(2), 249);
        Due.is("filled()", x.filled(), 8);
    }

    private static void subtract(int seed) {
        SharedMachine x = beginFilled(4, seed);
        for (int slot : NO_SLOTS) {
            Due.is("subtract(to " + slot + ")", x.subtract(slot, 0, 1), SharedMachine.BAD_SLOT);
            Due.is("subtract(a " + slot + ")", x.subtract(0, slot, 5), SharedMachine.BAD_SLOT);
            Due.is("subtract(b " + slot + ")", x.subtract(0, 5, slot), SharedMachine.BAD_SLOT);
        }
        Due.is("subtract(0, 5, 1)", x.subtract(0, 5, 1), SharedMachine.EMPTY);
        Due.is("subtract(0, 1, 5)", x.subtract(0, 1, 5), SharedMachine.EMPTY);
        unchanged(x);
        Due.is("subtract(4, 0, 1)", x.subtract(4, 0, 1), 0);
        Due.is("open(4)", x.open(4), 100);
        Due.is("subtract(4, 1, 0)", x.subtract(4, 1, 0), 0);
        Due.is("open(4)", x.open(4), 151);
        Due.is("subtract(5, 2, 3)", x.subtract(5, 2, 3), 0);
        errorIs(x, 5, 5, 23);
        Due.is("subtract(6, 3, 2)", x.subtract(6, 3, 2), 0);
        errorIs(x, 6, 246, 228);
        Due.is("subtract(7, 2, 2)", x.subtract(7, 2, 2), 0);
        Due.is("open(7): errors that cancel", x.open(7), 0);
        Due.is("subtract(2, 2, 2)", x.subtract(2, 2, 2), 0);
        Due.is("open(2)", x.open(2), 0);
        Due.is("filled()", x.filled(), 8);
    }

    private static void scale(int seed) {
        SharedMachine x = beginFilled(5, seed);
        for (int slot : NO_SLOTS) {
            Due.is("scale(to " + slot + ")", x.scale(slot, 5, 1), SharedMachine.BAD_SLOT);
            Due.is("scale(a " + slot + ")", x.scale(0, slot, 1), SharedMachine.BAD_SLOT);
        }
        Due.is("scale(0, 5, 2)", x.scale(0, 5, 2), SharedMachine.EMPTY);
        unchanged(x);
        int[] given = {0, 1, 2, 250, 251, -1, -2, MIN, MAX};
        int[] due = {0, 200, 149, 51, 0, 51, 102, 200 * MIN_REDUCED % 251, 200 * MAX_REDUCED % 251};
        for (int i = 0; i < given.length; i++) {
            Due.is("scale(4, 0, " + given[i] + ")", x.scale(4, 0, given[i]), 0);
            Due.is("open(4)", x.open(4), due[i]);
        }
        Due.is("scale(5, 2, 3)", x.scale(5, 2, 3), 0);
        errorIs(x, 5, 15, 90);
        Due.is("scale(5, 2, -1)", x.scale(5, 2, -1), 0);
        errorIs(x, 5, 246, 221);
        Due.is("scale(6, 2, 502)", x.scale(6, 2, 502), 0);
        Due.is("open(6): no error is left", x.open(6), 0);
        Due.is("scale(3, 3, 4)", x.scale(3, 3, 4), 0);
        Due.is("open(3)", x.open(3), 28);
    }

    private static void shift(int seed) {
        SharedMachine x = beginFilled(6, seed);
        for (int slot : NO_SLOTS) {
            Due.is("shift(to " + slot + ")", x.shift(slot, 5, 1), SharedMachine.BAD_SLOT);
            Due.is("shift(a " + slot + ")", x.shift(0, slot, 1), SharedMachine.BAD_SLOT);
        }
        Due.is("shift(0, 5, 2)", x.shift(0, 5, 2), SharedMachine.EMPTY);
        unchanged(x);
        int[] given = {0, 50, 51, 251, -1, -200, -201, MIN, MAX};
        int[] due = {200, 250, 0, 200, 199, 0, 250, (200 + MIN_REDUCED) % 251, (200 + MAX_REDUCED) % 251};
        for (int i = 0; i < given.length; i++) {
            Due.is("shift(4, 0, " + given[i] + ")", x.shift(4, 0, given[i]), 0);
            Due.is("open(4)", x.open(4), due[i]);
        }
        Due.is("open(0)", x.open(0), 200);
        Due.is("shift(5, 2, 9)", x.shift(5, 2, 9), 0);
        errorIs(x, 5, 5, 39);
        errorIs(x, 2, 5, 30);
        Due.is("shift(3, 3, 3)", x.shift(3, 3, 3), 0);
        Due.is("open(3)", x.open(3), 10);
        Due.is("shift(2, 3, 0) over an error", x.shift(2, 3, 0), 0);
        Due.is("open(2)", x.open(2), 10);
    }

    private static void multiply(int seed) {
        SharedMachine x = beginFilled(7, seed);
        for (int slot : NO_SLOTS) {
            Due.is("multiply(to " + slot + ")", x.multiply(slot, 2, 5), SharedMachine.BAD_SLOT);
            Due.is("multiply(a " + slot + ")", x.multiply(0, slot, 5), SharedMachine.BAD_SLOT);
            Due.is("multiply(b " + slot + ")", x.multiply(0, 2, slot), SharedMachine.BAD_SLOT);
        }
        Due.is("multiply(0, 5, 1)", x.multiply(0, 5, 1), SharedMachine.EMPTY);
        Due.is("multiply(0, 1, 5)", x.multiply(0, 1, 5), SharedMachine.EMPTY);
        Due.is("multiply(0, 2, 5)", x.multiply(0, 2, 5), SharedMachine.EMPTY);
        Due.is("multiply(0, 5, 2)", x.multiply(0, 5, 2), SharedMachine.EMPTY);
        Due.is("multiply(0, 2, 1)", x.multiply(0, 2, 1), SharedMachine.TAMPERED);
        Due.is("multiply(0, 1, 2)", x.multiply(0, 1, 2), SharedMachine.TAMPERED);
        Due.is("multiply(4, 2, 2)", x.multiply(4, 2, 2), SharedMachine.TAMPERED);
        unchanged(x);
        Due.is("multiply(4, 0, 1)", x.multiply(4, 0, 1), 0);
        Due.is("open(4)", x.open(4), 171);
        Due.is("multiply(2, 3, 3) over an error", x.multiply(2, 3, 3), 0);
        Due.is("open(2)", x.open(2), 49);
        Due.is("multiply(0, 0, 0)", x.multiply(0, 0, 0), 0);
        Due.is("open(0)", x.open(0), 91);
        Due.is("put(5, 250)", x.put(5, 250), 0);
        Due.is("multiply(6, 5, 5)", x.multiply(6, 5, 5), 0);
        Due.is("open(6)", x.open(6), 1);
        Due.is("put(7, 0)", x.put(7, 0), 0);
        Due.is("multiply(7, 7, 5)", x.multiply(7, 7, 5), 0);
        Due.is("open(7)", x.open(7), 0);
    }

    private static void power(int seed) {
        SharedMachine x = beginFilled(8, seed);
        for (int slot : NO_SLOTS) {
            Due.is("power(to " + slot + ")", x.power(slot, 2, 1), SharedMachine.BAD_SLOT);
            Due.is("power(to " + slot + ", empty)", x.power(slot, 5, 1), SharedMachine.BAD_SLOT);
            Due.is("power(a " + slot + ")", x.power(0, slot, 1), SharedMachine.BAD_SLOT);
        }
        Due.is("power(0, 5, 0)", x.power(0, 5, 0), SharedMachine.EMPTY);
        Due.is("power(0, 2, 0)", x.power(0, 2, 0), SharedMachine.TAMPERED);
        Due.is("power(2, 2, 1)", x.power(2, 2, 1), SharedMachine.TAMPERED);
        unchanged(x);
        // 7 to the powers 0 to 15, modulo 251.
        int[] powers = {1, 7, 49, 92, 142, 241, 181, 12, 84, 86, 100, 198, 131, 164, 144, 4};
        for (int n = -20; n < 40; n++) {
            Due.is("power(4, 3, " + n + ")", x.power(4, 3, n), 0);
            Due.is("open(4)", x.open(4), powers[n & 15]);
        }
        Due.is("power(4, 3, MIN)", x.power(4, 3, MIN), 0);
        Due.is("open(4)", x.open(4), 1);
        Due.is("power(4, 3, MAX)", x.power(4, 3, MAX), 0);
        Due.is("open(4)", x.open(4), 4);
        Due.is("put(5, 0)", x.put(5, 0), 0);
        Due.is("power(6, 5, 0)", x.power(6, 5, 0), 0);
        Due.is("open(6)", x.open(6), 1);
        Due.is("power(6, 5, 16)", x.power(6, 5, 16), 0);
        Due.is("open(6)", x.open(6), 1);
        Due.is("power(6, 5, 3)", x.power(6, 5, 3), 0);
        Due.is("open(6)", x.open(6), 0);
        Due.is("power(2, 3, 2) over an error", x.power(2, 3, 2), 0);
        Due.is("open(2)", x.open(2), 49);
        Due.is("power(3, 3, 3)", x.power(3, 3, 3), 0);
        Due.is("open(3)", x.open(3), 92);
    }

    private static void change(int seed) {
        SharedMachine x = beginFilled(9, seed);
        int[] noParties = {-1, 3, MIN, MAX};
        for (int party : noParties) {
            Due.is("change(" + party + ", 0, 1)", x.change(party, 0, 1), SharedMachine.BAD_PARTY);
            Due.is("change(" + party + ", 5, 1)", x.change(party, 5, 1), SharedMachine.BAD_PARTY);
            for (int slot : NO_SLOTS) {
                Due.is("change(" + party + ", " + slot + ", 1)", x.change(party, slot, 1), SharedMachine.BAD_SLOT);
                Due.is("change(0, " + slot + ", 1)", x.change(0, slot, 1), SharedMachine.BAD_SLOT);
            }
        }
        for (int party = 0; party < 3; party++) {
            Due.is("change(" + party + ", 5, 1)", x.change(party, 5, 1), SharedMachine.EMPTY);
        }
        unchanged(x);
        for (int party = 0; party < 3; party++) {
            Due.is("change(" + party + ", 0, 1)", x.change(party, 0, 1), 0);
            errorIs(x, 0, 1, 200);
            Due.is("change(" + party + ", 0, 250)", x.change(party, 0, 250), 0);
            Due.is("open(0)", x.open(0), 200);
            Due.is("change(" + party + ", 0, 251)", x.change(party, 0, 251), 0);
            Due.is("open(0)", x.open(0), 200);
            Due.is("change(" + party + ", 0, 0)", x.change(party, 0, 0), 0);
            Due.is("open(0)", x.open(0), 200);
            Due.is("change(" + party + ", 1, MIN)", x.change(party, 1, MIN), 0);
            errorIs(x, 1, MIN_REDUCED, 100);
            Due.is("change(" + party + ", 1, MAX)", x.change(party, 1, MAX), 0);
            errorIs(x, 1, MIN_REDUCED + MAX_REDUCED, 100);
            Due.is("change(" + party + ", 1, 1)", x.change(party, 1, 1), 0);
            Due.is("open(1)", x.open(1), 100);
        }
        Due.is("filled()", x.filled(), 4);
    }

    private static void refresh(int seed) {
        SharedMachine x = beginFilled(10, seed);
        for (int slot : NO_SLOTS) {
            Due.is("refresh(" + slot + ")", x.refresh(slot), SharedMachine.BAD_SLOT);
        }
        Due.is("refresh(5)", x.refresh(5), SharedMachine.EMPTY);
        unchanged(x);
        for (int i = 0; i < 10; i++) {
            for (int slot = 0; slot < 4; slot++) {
                Due.is("refresh(" + slot + ")", x.refresh(slot), 0);
            }
            unchanged(x);
        }
    }

    private static void clear(int seed) {
        SharedMachine x = beginFilled(11, seed);
        for (int slot : NO_SLOTS) {
            Due.is("clear(" + slot + ")", x.clear(slot), SharedMachine.BAD_SLOT);
        }
        Due.is("clear(5)", x.clear(5), 0);
        unchanged(x);
        Due.is("clear(0)", x.clear(0), 1);
        Due.is("open(0)", x.open(0), SharedMachine.EMPTY);
        Due.is("clear(0)", x.clear(0), 0);
        Due.is("clear(2): with an error", x.clear(2), 1);
        Due.is("open(2)", x.open(2), SharedMachine.EMPTY);
        Due.is("filled()", x.filled(), 2);
        Due.is("open(1)", x.open(1), 100);
        Due.is("open(3)", x.open(3), 7);
        Due.is("add(2, 1, 3)", x.add(2, 1, 3), 0);
        Due.is("open(2): the error is gone", x.open(2), 107);
        Due.is("put(11, 0)", x.put(11, 0), 0);
        Due.is("clear(11): a number that is 0", x.clear(11), 1);
    }

    private static void open(int seed) {
        SharedMachine x = beginFilled(12, seed);
        for (int slot : NO_SLOTS) {
            Due.is("open(" + slot + ")", x.open(slot), SharedMachine.BAD_SLOT);
        }
        for (int i = 0; i < 3; i++) {
            unchanged(x);
        }
        for (int number = 0; number < 251; number++) {
            x = new SharedMachine(seed + number);
            Due.is("put(11, " + number + ")", x.put(11, number), 0);
            Due.is("open(11)", x.open(11), number);
        }
        x = begin(12, seed);
        Due.is("put(0, 250)", x.put(0, 250), 0);
        for (int error = 1; error < 251; error++) {
            Due.is("change(0, 0, 1)", x.change(error % 3, 0, 1), 0);
            Due.is("open(0) with the error " + error, x.open(0), SharedMachine.TAMPERED);
        }
        Due.is("change(0, 0, 1)", x.change(0, 0, 1), 0);
        Due.is("open(0) with the error 251", x.open(0), 250);
    }

    private static void same(int seed) {
        SharedMachine x = beginFilled(13, seed);
        for (int slot : NO_SLOTS) {
            Due.is("same(0, " + slot + ")", x.same(0, slot), false);
            Due.is("same(" + slot + ", 0)", x.same(slot, 0), false);
            Due.is("same(" + slot + ", " + slot + ")", x.same(slot, slot), false);
        }
        Due.is("same(0, 5)", x.same(0, 5), false);
        Due.is("same(5, 0)", x.same(5, 0), false);
        Due.is("same(5, 6): both empty", x.same(5, 6), false);
        Due.is("same(0, 0)", x.same(0, 0), true);
        Due.is("same(0, 1)", x.same(0, 1), false);
        Due.is("same(2, 2): with an error", x.same(2, 2), true);
        unchanged(x);
        Due.is("put(4, -51)", x.put(4, -51), 0);
        Due.is("same(0, 4)", x.same(0, 4), true);
        Due.is("same(4, 0)", x.same(4, 0), true);
        Due.is("put(5, 30)", x.put(5, 30), 0);
        Due.is("same(2, 5): other errors", x.same(2, 5), false);
        Due.is("same(5, 2): other errors", x.same(5, 2), false);
        Due.is("put(6, 35)", x.put(6, 35), 0);
        Due.is("same(2, 6): the number shown", x.same(2, 6), false);
        Due.is("change(0, 5, 256)", x.change(0, 5, 256), 0);
        Due.is("same(2, 5): equal errors", x.same(2, 5), true);
        Due.is("change(2, 6, 5)", x.change(2, 6, 5), 0);
        Due.is("same(2, 6): equal errors, other numbers", x.same(2, 6), false);
        Due.is("change(2, 6, -10)", x.change(2, 6, -10), 0);
        Due.is("same(2, 6): opposite errors", x.same(2, 6), false);
    }

    private static void filled(int seed) {
        SharedMachine x = begin(14, seed);
        for (int slot = 0; slot < 12; slot++) {
            Due.is("filled()", x.filled(), slot);
            Due.is("put(" + slot + ", 0)", x.put(slot, 0), 0);
            Due.is("put(" + slot + ", 0)", x.put(slot, 0), 0);
            Due.is("change(0, " + slot + ", 1)", x.change(0, slot, slot), 0);
        }
        Due.is("filled()", x.filled(), 12);
        Due.is("filled()", x.filled(), 12);
        for (int slot = 11; slot >= 0; slot--) {
            Due.is("clear(" + slot + ")", x.clear(slot), 1);
            Due.is("filled()", x.filled(), slot);
        }
        x = beginFilled(14, seed);
        Due.is("add(4, 0, 1)", x.add(4, 0, 1), 0);
        Due.is("subtract(5, 0, 1)", x.subtract(5, 0, 1), 0);
        Due.is("scale(6, 0, 0)", x.scale(6, 0, 0), 0);
        Due.is("shift(7, 0, 1)", x.shift(7, 0, 1), 0);
        Due.is("multiply(8, 0, 1)", x.multiply(8, 0, 1), 0);
        Due.is("power(9, 0, 2)", x.power(9, 0, 2), 0);
        Due.is("filled()", x.filled(), 10);
    }

    private static void orderAndLimits(int seed) {
        SharedMachine x = begin(15, seed);
        Due.is("put(0, 6)", x.put(0, 6), 0);
        Due.is("shift(1, 0, 3): a sum, not the bits of both", x.shift(1, 0, 3), 0);
        Due.is("open(1)", x.open(1), 9);
        Due.is("shift(1, 1, 250)", x.shift(1, 1, 250), 0);
        Due.is("open(1)", x.open(1), 8);
        Due.is("change(0, 0, 6)", x.change(0, 0, 6), 0);
        Due.is("change(1, 0, 3)", x.change(1, 0, 3), 0);
        errorIs(x, 0, 9, 6);
        Due.is("change(2, 0, 242)", x.change(2, 0, 242), 0);
        Due.is("open(0)", x.open(0), 6);
        // The 512th call is still answered as promised.
        x = begin(15, seed);
        Due.is("put(0, 0)", x.put(0, 0), 0);
        for (int call = 2; call < 512; call++) {
            Due.is("shift(0, 0, 1)", x.shift(0, 0, 1), 0);
        }
        Due.is("open(0) as the 512th call", x.open(0), 510 % 251);
    }
}
