/**
 * The promises one by one. Each part names the sentence that it holds the class to; what the slots
 * of the machine hold before each call stands in Known.
 */
public final class PromisesTest {
    private static final int MIN = Integer.MIN_VALUE;
    private static final int MAX = Integer.MAX_VALUE;
    private static final int BAD_SLOT = SharedMachine.BAD_SLOT;
    private static final int EMPTY = SharedMachine.EMPTY;
    private static final int TAMPERED = SharedMachine.TAMPERED;
    private static final int BAD_PARTY = SharedMachine.BAD_PARTY;
    private static final int[] SEEDS = {0, 1, -1, 251, MIN, MAX};
    private static final int[] NO_SLOTS = {-1, 12, MIN, MAX};

    public static void main(String[] args) {
        Due.run(PromisesTest::newObject);
        Due.run(PromisesTest::put);
        Due.run(PromisesTest::add);
        Due.run(PromisesTest::subtract);
        Due.run(PromisesTest::scale);
        Due.run(PromisesTest::shift);
        Due.run(PromisesTest::multiply);
        Due.run(PromisesTest::power);
        Due.run(PromisesTest::change);
        Due.run(PromisesTest::refresh);
        Due.run(PromisesTest::clear);
        Due.run(PromisesTest::open);
        Due.run(PromisesTest::same);
        Due.run(PromisesTest::filled);
        Due.run(PromisesTest::orderAndLimits);
        Due.end();
    }

    /** Each slot of the call in turn is not one of the twelve. */
    private static void badSlots(String call, boolean lastIsSlot) {
        for (int slot : NO_SLOTS) {
            Known.keeps(BAD_SLOT, call, slot, 0, 1);
            Known.keeps(BAD_SLOT, call, 0, slot, 1);
            if (lastIsSlot) {
                Known.keeps(BAD_SLOT, call, 0, 1, slot);
            }
        }
    }

    private static void newObject() {
        for (int seed : SEEDS) {
            Due.begin("Promise 1: All slots are empty (seed " + seed + ")");
            SharedMachine x = new SharedMachine(seed);
            Due.is("filled()", x.filled(), 0);
            for (int slot = 0; slot < 12; slot++) {
                Due.is("open(" + slot + ")", x.open(slot), EMPTY);
                Due.is("add(0, " + slot + ", 0)", x.add(0, slot, 0), EMPTY);
                Due.is("subtract(0, 0, " + slot + ")", x.subtract(0, 0, slot), EMPTY);
                Due.is("scale(0, " + slot + ", 1)", x.scale(0, slot, 1), EMPTY);
                Due.is("shift(0, " + slot + ", 1)", x.shift(0, slot, 1), EMPTY);
                Due.is("multiply(0, " + slot + ", 0)", x.multiply(0, slot, 0), EMPTY);
                Due.is("power(0, " + slot + ", 0)", x.power(0, slot, 0), EMPTY);
                Due.is("change(0, " + slot + ", 1)", x.change(0, slot, 1), EMPTY);
                Due.is("refresh(" + slot + ")", x.refresh(slot), EMPTY);
                Due.is("same(" + slot + ", " + slot + ")", x.same(slot, slot), false);
                Due.is("clear(" + slot + ")", x.clear(slot), 0);
            }
            Due.is("filled()", x.filled(), 0);
            SharedMachine other = new SharedMachine(seed);
            Due.is("put(0, 5)", x.put(0, 5), 0);
            Due.is("open(0) of another object", other.open(0), EMPTY);
        }
        Due.begin("Promise 1: 'seed' changes nothing that any call answers");
        String due = answersOf(0);
        for (int i = -3000; i < 3000; i++) {
            int seed = i * 715_827;
            Due.is("seed " + seed, answersOf(seed).equals(due), true);
        }
        for (int seed : SEEDS) {
            Due.is("seed " + seed, answersOf(seed).equals(due), true);
        }
    }

    private static String answersOf(int seed) {
        SharedMachine x = new SharedMachine(seed);
        return "" + x.open(0) + x.put(0, 250) + x.put(1, 0) + x.add(2, 0, 0) + x.multiply(3, 2, 2)
            + x.change(0, 0, 7) + x.subtract(4, 1, 0) + x.shift(5, 4, -1) + x.power(6, 3, 9) + x.refresh(6)
            + x.open(0) + x.open(2) + x.open(3) + x.open(4) + x.open(5) + x.open(6) + x.change(2, 5, 7)
            + x.open(5) + x.same(0, 4) + x.same(2, 3) + x.same(5, 5) + x.clear(6) + x.filled();
    }

    private static void put() {
        Due.begin("Promise 2: The slot holds x modulo 251");
        Known.fills(0, 0, "put", 5, 0);
        Known.fills(250, 0, "put", 5, 250);
        Known.fills(0, 0, "put", 5, 251);
        Known.fills(1, 0, "put", 5, 252);
        Known.fills(250, 0, "put", 5, 501);
        Known.fills(0, 0, "put", 5, 502);
        Known.fills(250, 0, "put", 5, -1);
        Known.fills(0, 0, "put", 5, -502);
        Known.fills(64, 0, "put", 5, MIN);
        Known.fills(186, 0, "put", 5, MAX);
        Due.begin("Promise 2: without an error");
        Known.fills(30, 0, "put", 2, 30);
        Known.fills(9, 0, "put", 4, 9);
        Due.begin("Promise 2: BAD_SLOT");
        for (int slot : NO_SLOTS) {
            Known.keeps(BAD_SLOT, "put", slot, 9);
        }
        Due.begin("Promise 2: Else answers 0");
        for (int slot = 0; slot < 12; slot++) {
            Known.fills(123, 0, "put", slot, 123);
        }
    }

    private static void add() {
        Due.begin("Promise 3: Slot 'to' holds the sum of the numbers of a and b");
        Known.fills(101, 0, "add", 5, 1, 8);
        Known.fills(49, 0, "add", 8, 0, 1);
        Known.fills(250, 0, "add", 5, 11, 3);
        Known.fills(0, 0, "add", 5, 11, 8);
        Known.fills(249, 0, "add", 5, 11, 11);
        Known.fills(49, 0, "add", 0, 0, 1);
        Known.fills(49, 0, "add", 1, 0, 1);
        Known.fills(149, 0, "add", 0, 0, 0);
        Due.begin("Promise 3: its error the sum of their errors");
        Known.fills(130, 5, "add", 5, 2, 1);
        Known.fills(130, 5, "add", 5, 1, 2);
        Known.fills(60, 10, "add", 5, 2, 9);
        Known.fills(60, 10, "add", 2, 2, 2);
        Known.fills(220, 247, "add", 5, 4, 7);
        Known.fills(191, 241, "add", 5, 4, 4);
        Known.fills(0, 0, "add", 5, 2, 4);
        Known.fills(49, 0, "add", 2, 0, 1);
        Due.begin("Promise 3: BAD_SLOT");
        badSlots("add", true);
        Due.begin("Promise 3: a or b is empty: EMPTY");
        emptyOfTwo("add");
    }

    /** A result may go to an empty slot; only a and b must hold numbers. */
    private static void emptyOfTwo(String call) {
        Known.keeps(EMPTY, call, 0, 5, 1);
        Known.keeps(EMPTY, call, 0, 1, 5);
        Known.keeps(EMPTY, call, 0, 5, 6);
        Known.keeps(EMPTY, call, 5, 5, 1);
        Known.keeps(EMPTY, call, 5, 1, 5);
        Known.keeps(EMPTY, call, 5, 5, 5);
        Known.keeps(EMPTY, call, 2, 5, 2);
        Known.keeps(EMPTY, call, 2, 2, 5);
    }

    private static void subtract() {
        Due.begin("Promise 4: Slot 'to' holds the number of a less that of b");
        Known.fills(100, 0, "subtract", 5, 0, 1);
        Known.fills(151, 0, "subtract", 8, 1, 0);
        Known.fills(250, 0, "subtract", 5, 3, 8);
        Known.fills(1, 0, "subtract", 5, 3, 11);
        Known.fills(0, 0, "subtract", 5, 11, 11);
        Known.fills(100, 0, "subtract", 0, 0, 1);
        Known.fills(100, 0, "subtract", 1, 0, 1);
        Known.fills(0, 0, "subtract", 0, 0, 0);
        Due.begin("Promise 4: its error likewise");
        Known.fills(181, 5, "subtract", 5, 2, 1);
        Known.fills(70, 246, "subtract", 5, 1, 2);
        Known.fills(0, 0, "subtract", 5, 2, 9);
        Known.fills(0, 0, "subtract", 2, 2, 2);
        Known.fills(60, 10, "subtract", 5, 2, 4);
        Known.fills(191, 241, "subtract", 5, 4, 2);
        Known.fills(100, 0, "subtract", 2, 0, 1);
        Due.begin("Promise 4: BAD_SLOT");
        badSlots("subtract", true);
        Due.begin("Promise 4: EMPTY");
        emptyOfTwo("subtract");
    }

    private static void emptyOfOne(String call, int x) {
        Known.keeps(EMPTY, call, 0, 5, x);
        Known.keeps(EMPTY, call, 2, 5, x);
        Known.keeps(EMPTY, call, 5, 5, x);
        Known.keeps(EMPTY, call, 6, 5, x);
    }

    private static void scale() {
        Due.begin("Promise 5: Slot 'to' holds x times the number of a");
        Known.fills(0, 0, "scale", 5, 0, 0);
        Known.fills(200, 0, "scale", 8, 0, 1);
        Known.fills(149, 0, "scale", 5, 0, 2);
        Known.fills(51, 0, "scale", 5, 0, 250);
        Known.fills(0, 0, "scale", 5, 0, 251);
        Known.fills(200, 0, "scale", 5, 0, 252);
        Known.fills(51, 0, "scale", 5, 0, -1);
        Known.fills(0, 0, "scale", 5, 0, -251);
        Known.fills(250, 0, "scale", 5, 0, 64);
        Known.fills(250, 0, "scale", 5, 0, MIN);
        Known.fills(52, 0, "scale", 5, 0, MAX);
        Known.fills(0, 0, "scale", 5, 3, MAX);
        Known.fills(149, 0, "scale", 0, 0, 2);
        Due.begin("Promise 5: its error x times the error of a");
        Known.fills(90, 15, "scale", 5, 2, 3);
        Known.fills(221, 246, "scale", 5, 2, -1);
        Known.fills(30, 5, "scale", 5, 2, 1);
        Known.fills(0, 0, "scale", 5, 2, 0);
        Known.fills(0, 0, "scale", 5, 2, 502);
        Known.fills(1, 250, "scale", 5, 7, 250);
        Known.fills(163, 69, "scale", 5, 2, MIN);
        Known.fills(58, 177, "scale", 5, 2, MAX);
        Known.fills(60, 10, "scale", 2, 2, 2);
        Known.fills(200, 0, "scale", 2, 0, 1);
        Due.begin("Promise 5: BAD_SLOT");
        badSlots("scale", false);
        Due.begin("Promise 5: a is empty: EMPTY");
        emptyOfOne("scale", 0);
        emptyOfOne("scale", 2);
    }

    private static void shift() {
        Due.begin("Promise 6: Slot 'to' holds the number of a and x");
        Known.fills(200, 0, "shift", 5, 0, 0);
        Known.fills(250, 0, "shift", 8, 0, 50);
        Known.fills(0, 0, "shift", 5, 0, 51);
        Known.fills(200, 0, "shift", 5, 0, 251);
        Known.fills(199, 0, "shift", 5, 0, -1);
        Known.fills(0, 0, "shift", 5, 0, -200);
        Known.fills(250, 0, "shift", 5, 0, -201);
        Known.fills(200, 0, "shift", 5, 0, -251);
        Known.fills(13, 0, "shift", 5, 0, MIN);
        Known.fills(135, 0, "shift", 5, 0, MAX);
        Known.fills(203, 0, "shift", 0, 0, 3);
        Due.begin("Promise 6: with the error of a");
        Known.fills(39, 5, "shift", 5, 2, 9);
        Known.fills(25, 5, "shift", 5, 2, -5);
        Known.fills(30, 5, "shift", 5, 2, 251);
        Known.fills(31, 5, "shift", 2, 2, 1);
        Known.fills(222, 246, "shift", 2, 4, 1);
        Known.fills(201, 0, "shift", 2, 0, 1);
        Due.begin("Promise 6: BAD_SLOT");
        badSlots("shift", false);
        Due.begin("Promise 6: EMPTY");
        emptyOfOne("shift", 0);
        emptyOfOne("shift", 2);
    }

    private static void multiply() {
        Due.begin("Promise 7: Slot 'to' holds the product of the numbers of a and b");
        Known.fills(171, 0, "multiply", 5, 0, 1);
        Known.fills(171, 0, "multiply", 8, 1, 0);
        Known.fills(1, 0, "multiply", 5, 11, 11);
        Known.fills(51, 0, "multiply", 5, 11, 0);
        Known.fills(0, 0, "multiply", 5, 3, 11);
        Known.fills(0, 0, "multiply", 5, 11, 3);
        Known.fills(250, 0, "multiply", 5, 11, 8);
        Known.fills(171, 0, "multiply", 0, 0, 1);
        Known.fills(171, 0, "multiply", 1, 0, 1);
        Known.fills(91, 0, "multiply", 0, 0, 0);
        Due.begin("Promise 7: without an error");
        Known.fills(171, 0, "multiply", 2, 0, 1);
        Known.fills(0, 0, "multiply", 7, 3, 3);
        Due.begin("Promise 7: BAD_SLOT");
        badSlots("multiply", true);
        Due.begin("Promise 7: a or b is empty: EMPTY");
        emptyOfTwo("multiply");
        Due.begin("Promise 7: a or b has an error other than 0: TAMPERED");
        Known.keeps(TAMPERED, "multiply", 0, 2, 1);
        Known.keeps(TAMPERED, "multiply", 0, 1, 2);
        Known.keeps(TAMPERED, "multiply", 5, 2, 2);
        Known.keeps(TAMPERED, "multiply", 2, 2, 1);
        // Not saved by a sum or a difference of errors that is 0, nor by a factor 0.
        Known.keeps(TAMPERED, "multiply", 0, 2, 4);
        Known.keeps(TAMPERED, "multiply", 0, 2, 9);
        Known.keeps(TAMPERED, "multiply", 0, 2, 3);
        Known.keeps(TAMPERED, "multiply", 0, 3, 2);
        Known.keeps(TAMPERED, "multiply", 0, 7, 8);
        Known.keeps(TAMPERED, "multiply", 0, 8, 7);
    }

    private static void power() {
        Due.begin("Promise 8: Slot 'to' holds the number of a to the power of n (n & 15)");
        // 200 to the powers 0 to 15, modulo 251.
        int[] powers = {1, 200, 91, 128, 249, 102, 69, 246, 4, 47, 113, 10, 243, 157, 25, 231};
        for (int n = -33; n < 49; n++) {
            Known.fills(powers[n & 15], 0, "power", 5, 0, n);
        }
        Known.fills(231, 0, "power", 8, 0, MAX);
        Known.fills(200, 0, "power", 5, 0, MIN + 1);
        Known.fills(250, 0, "power", 5, 11, 15);
        Known.fills(1, 0, "power", 5, 11, 14);
        Known.fills(1, 0, "power", 5, 8, 15);
        Known.fills(0, 0, "power", 5, 3, 1);
        Known.fills(0, 0, "power", 5, 3, 15);
        Known.fills(91, 0, "power", 0, 0, 2);
        Due.begin("Promise 8: 1 for n & 15 being 0");
        int[] noPower = {0, 16, 32, 256, -16, -32, MIN, MAX - 15};
        for (int n : noPower) {
            Known.fills(1, 0, "power", 5, 0, n);
            Known.fills(1, 0, "power", 5, 3, n);
            Known.fills(1, 0, "power", 3, 3, n);
        }
        Due.begin("Promise 8: without an error");
        Known.fills(91, 0, "power", 2, 0, 2);
        Known.fills(1, 0, "power", 2, 0, 0);
        Due.begin("Promise 8: BAD_SLOT");
        badSlots("power", false);
        Due.begin("Promise 8: a is empty: EMPTY");
        emptyOfOne("power", 0);
        emptyOfOne("power", 3);
        Due.begin("Promise 8: a has an error other than 0: TAMPERED");
        int[] tampered = {2, 4, 7, 9};
        for (int slot : tampered) {
            Known.keeps(TAMPERED, "power", 0, slot, 1);
            Known.keeps(TAMPERED, "power", 5, slot, 0);
            Known.keeps(TAMPERED, "power", slot, slot, 16);
        }
    }

    private static void change() {
        Due.begin("Promise 9: the slot's error becomes its error and x");
        for (int party = 0; party < 3; party++) {
            Known.fills(200, 1, "change", party, 0, 1);
            Known.fills(200, 250, "change", party, 0, 250);
            Known.fills(200, 0, "change", party, 0, 251);
            Known.fills(200, 0, "change", party, 0, 0);
            Known.fills(200, 250, "change", party, 0, -1);
            Known.fills(30, 10, "change", party, 2, 5);
            Known.fills(30, 5, "change", party, 2, 0);
            Known.fills(30, 250, "change", party, 2, 245);
            Known.fills(30, 0, "change", party, 2, 246);
            Known.fills(30, 1, "change", party, 2, 247);
            Known.fills(30, 0, "change", party, 2, -5);
            Known.fills(30, 69, "change", party, 2, MIN);
            Known.fills(30, 191, "change", party, 2, MAX);
            Known.fills(250, 2, "change", party, 11, 2);
        }
        Due.begin("Promise 9: BAD_SLOT");
        for (int slot : NO_SLOTS) {
            Known.keeps(BAD_SLOT, "change", 0, slot, 1);
            Known.keeps(BAD_SLOT, "change", 3, slot, 1);
        }
        Due.begin("Promise 9: party not in 0 to 2: BAD_PARTY");
        int[] noParties = {-1, 3, -3, 4, 11, 12, 256, MIN, MAX};
        for (int party : noParties) {
            Known.keeps(BAD_PARTY, "change", party, 0, 1);
            Known.keeps(BAD_PARTY, "change", party, 2, -5);
            Known.keeps(BAD_PARTY, "change", party, 11, 0);
            Known.keeps(BAD_PARTY, "change", party, 5, 1);
        }
        Due.begin("Promise 9: the slot is empty: EMPTY");
        for (int party = 0; party < 3; party++) {
            Known.keeps(EMPTY, "change", party, 5, 1);
            Known.keeps(EMPTY, "change", party, 5, 0);
        }
    }

    private static void refresh() {
        Due.begin("Promise 10: its number and error stay");
        int[] held = {0, 1, 2, 3, 4, 7, 8, 9, 10, 11};
        for (int slot : held) {
            Known.keeps(0, "refresh", slot);
        }
        SharedMachine x = new SharedMachine(1);
        Due.is("put(0, 250)", x.put(0, 250), 0);
        Due.is("change(1, 0, 250)", x.change(1, 0, 250), 0);
        for (int i = 0; i < 500; i++) {
            Due.is("refresh(0)", x.refresh(0), 0);
        }
        Due.is("open(0) after many calls", x.open(0), TAMPERED);
        Due.is("change(1, 0, 1)", x.change(1, 0, 1), 0);
        Due.is("open(0) without its error", x.open(0), 250);
        Due.begin("Promise 10: BAD_SLOT");
        for (int slot : NO_SLOTS) {
            Known.keeps(BAD_SLOT, "refresh", slot);
        }
        Due.begin("Promise 10: EMPTY");
        Known.keeps(EMPTY, "refresh", 5);
        Known.keeps(EMPTY, "refresh", 6);
    }

    private static void clear() {
        Due.begin("Promise 11: The slot becomes empty");
        SharedMachine x = new SharedMachine(4);
        Due.is("put(2, 30)", x.put(2, 30), 0);
        Due.is("change(0, 2, 5)", x.change(0, 2, 5), 0);
        Due.is("clear(2)", x.clear(2), 1);
        Due.is("open(2): no longer TAMPERED", x.open(2), EMPTY);
        Due.is("multiply(3, 2, 2)", x.multiply(3, 2, 2), EMPTY);
        Due.is("power(3, 2, 1)", x.power(3, 2, 1), EMPTY);
        Due.is("change(0, 2, -5)", x.change(0, 2, -5), EMPTY);
        Due.is("refresh(2)", x.refresh(2), EMPTY);
        Due.is("same(2, 2)", x.same(2, 2), false);
        Due.is("filled()", x.filled(), 0);
        Due.is("put(2, 31)", x.put(2, 31), 0);
        Due.is("open(2): the error is gone", x.open(2), 31);
        Due.begin("Promise 11: BAD_SLOT");
        for (int slot : NO_SLOTS) {
            Known.keeps(BAD_SLOT, "clear", slot);
        }
        Due.begin("Promise 11: answers 1 if it held a number");
        int[] held = {0, 1, 2, 3, 4, 7, 8, 9, 10, 11};
        for (int slot : held) {
            Known.isCleared(slot);
        }
        Due.begin("Promise 11: 0 if not");
        Known.keeps(0, "clear", 5);
        Known.keeps(0, "clear", 6);
        x = new SharedMachine(4);
        Due.is("put(11, 0)", x.put(11, 0), 0);
        Due.is("clear(11)", x.clear(11), 1);
        Due.is("clear(11) again", x.clear(11), 0);
        Due.is("clear(11) again", x.clear(11), 0);
    }

    private static void open() {
        Due.begin("Promise 12: The slot's number");
        Known.keeps(200, "open", 0);
        Known.keeps(0, "open", 3);
        Known.keeps(1, "open", 8);
        Known.keeps(250, "open", 11);
        Due.begin("Promise 12: BAD_SLOT");
        for (int slot : NO_SLOTS) {
            Known.keeps(BAD_SLOT, "open", slot);
        }
        Due.begin("Promise 12: EMPTY");
        Known.keeps(EMPTY, "open", 5);
        Known.keeps(EMPTY, "open", 6);
        Due.begin("Promise 12: its error is not 0: TAMPERED");
        SharedMachine x = new SharedMachine(9);
        Due.is("put(0, 250)", x.put(0, 250), 0);
        for (int error = 1; error < 251; error++) {
            Due.is("change by 1", x.change(error % 3, 0, 1), 0);
            Due.is("open(0) with the error " + error, x.open(0), TAMPERED);
        }
        Due.is("change by 1", x.change(0, 0, 1), 0);
        Due.is("open(0) with the error 251, which is 0", x.open(0), 250);
    }

    private static void same() {
        Due.begin("Promise 13: Whether two slots hold the same number");
        Known.keeps(1, "same", 0, 0);
        Known.keeps(1, "same", 3, 3);
        Known.keeps(0, "same", 0, 1);
        Known.keeps(0, "same", 3, 8);
        Known.keeps(0, "same", 3, 11);
        Known.keeps(0, "same", 11, 3);
        SharedMachine x = new SharedMachine(2);
        Due.is("put(0, 250)", x.put(0, 250), 0);
        Due.is("put(11, -1)", x.put(11, -1), 0);
        Due.is("same(0, 11)", x.same(0, 11), true);
        Due.is("same(11, 0)", x.same(11, 0), true);
        Due.begin("Promise 13: A slot not in 0 to 11: false");
        for (int slot : NO_SLOTS) {
            Known.keeps(0, "same", 0, slot);
            Known.keeps(0, "same", slot, 0);
            Known.keeps(0, "same", slot, slot);
            Known.keeps(0, "same", 5, slot);
        }
        Known.keeps(0, "same", -1, 12);
        Due.begin("Promise 13: or empty: false");
        // Slot 3 holds 0, which an empty slot does not.
        Known.keeps(0, "same", 3, 5);
        Known.keeps(0, "same", 5, 3);
        Known.keeps(0, "same", 5, 5);
        Known.keeps(0, "same", 5, 6);
        Known.keeps(0, "same", 2, 5);
        Due.begin("Promise 13: or with the error of a less that of b not 0: false");
        sameWithErrors();
    }

    private static void sameWithErrors() {
        Known.keeps(1, "same", 2, 2);
        Known.keeps(1, "same", 2, 9);
        Known.keeps(1, "same", 9, 2);
        Known.keeps(0, "same", 2, 10);
        Known.keeps(0, "same", 10, 2);
        Known.keeps(0, "same", 2, 4);
        Known.keeps(0, "same", 7, 11);
        Known.keeps(0, "same", 11, 7);
        Known.keeps(0, "same", 7, 3);
        SharedMachine x = new SharedMachine(2);
        Due.is("put(0, 40)", x.put(0, 40), 0);
        Due.is("put(1, 40)", x.put(1, 40), 0);
        Due.is("put(2, 41)", x.put(2, 41), 0);
        Due.is("change(0, 0, 250)", x.change(0, 0, 250), 0);
        Due.is("same(0, 1): 250 and 0", x.same(0, 1), false);
        Due.is("same(1, 0): 0 and 250", x.same(1, 0), false);
        Due.is("change(1, 1, 1)", x.change(1, 1, 1), 0);
        Due.is("same(0, 1): opposite errors", x.same(0, 1), false);
        Due.is("change(1, 1, -2)", x.change(1, 1, -2), 0);
        Due.is("same(0, 1): equal errors", x.same(0, 1), true);
        Due.is("change(2, 2, -1)", x.change(2, 2, -1), 0);
        Due.is("same(0, 2): equal errors, other numbers", x.same(0, 2), false);
        Due.is("same(2, 0): equal errors, other numbers", x.same(2, 0), false);
    }

    private static void filled() {
        Due.begin("Promise 14: How many slots hold a number");
        SharedMachine x = new SharedMachine(8);
        for (int slot = 0; slot < 12; slot++) {
            Due.is("filled()", x.filled(), slot);
            Due.is("put(" + slot + ", 0)", x.put(slot, 0), 0);
            Due.is("put(" + slot + ", 0) again", x.put(slot, 0), 0);
            Due.is("change(0, " + slot + ", 1)", x.change(0, slot, 1), 0);
        }
        Due.is("filled() when full", x.filled(), 12);
        Due.is("put(0, 1) when full", x.put(0, 1), 0);
        Due.is("add(11, 0, 0) when full", x.add(11, 0, 0), 0);
        Due.is("filled() when full", x.filled(), 12);
        for (int slot = 11; slot >= 0; slot--) {
            Due.is("clear(" + slot + ")", x.clear(slot), 1);
            Due.is("filled()", x.filled(), slot);
        }
        Due.is("clear(0) when empty", x.clear(0), 0);
        Due.is("filled() when empty", x.filled(), 0);
    }

    private static void orderAndLimits() {
        Due.begin("Promise 15: In shift \"and\" stands for the sum (modulo 251)");
        // 200 and 35 have common bits: neither & nor | nor ^ gives their sum.
        Known.fills(235, 0, "shift", 5, 0, 35);
        Known.fills(220, 0, "shift", 5, 1, 120);
        Known.fills(0, 0, "shift", 5, 11, 1);
        Known.fills(249, 0, "shift", 5, 11, 250);
        Due.begin("Promise 15: in change \"and\" stands for the sum (modulo 251)");
        Known.fills(30, 12, "change", 0, 2, 7);
        Known.fills(250, 2, "change", 0, 7, 1);
        Known.fills(221, 1, "change", 0, 4, 6);
        Known.fills(221, 245, "change", 0, 4, 250);
        Due.begin("Promise 15: in THE NUMBER SHOWN \"and\" stands for the sum (modulo 251)");
        // With an error of 0, at once or again, it is the number itself.
        Known.keeps(200, "open", 0);
        Known.keeps(250, "open", 11);
        Known.fills(250, 0, "change", 2, 7, 250);
        Known.fills(30, 0, "change", 0, 2, -5);
        // With any other it is nowhere told: neither by open nor by same.
        Known.keeps(TAMPERED, "open", 7);
        Known.keeps(0, "same", 7, 3);
        Known.keeps(0, "same", 10, 2);
    }
}
