/** The document's first section and its "Terms", sentence by sentence, for all calls that they speak of. */
public final class TermsTest {
    private static final int MIN = Integer.MIN_VALUE;
    private static final int MAX = Integer.MAX_VALUE;
    private static final int BAD_SLOT = SharedMachine.BAD_SLOT;
    private static final int EMPTY = SharedMachine.EMPTY;
    private static final int TAMPERED = SharedMachine.TAMPERED;
    private static final int BAD_PARTY = SharedMachine.BAD_PARTY;

    // Some are slots again if they are cut to a byte, masked, or taken modulo 12 or 251.
    private static final int[] NO_SLOTS = {-1, 12, -2, 13, -12, 16, -251, 251, 256, 65536, MIN, MAX};

    // What each argument of a call is: s a slot, p a party, x any number.
    private static final String[][] CALLS = {
        {"put", "sx"}, {"add", "sss"}, {"subtract", "sss"}, {"scale", "ssx"}, {"shift", "ssx"},
        {"multiply", "sss"}, {"power", "ssx"}, {"change", "psx"}, {"refresh", "s"}, {"clear", "s"},
        {"open", "s"}, {"same", "ss"}, {"filled", ""},
    };

    public static void main(String[] args) {
        Due.run(TermsTest::lastCall);
        Due.run(TermsTest::twelveSlots);
        Due.run(TermsTest::numbersFrom0To250);
        Due.run(TermsTest::threeParties);
        Due.run(TermsTest::splitNotSeen);
        Due.run(TermsTest::noErrorFromPut);
        Due.run(TermsTest::errorNeverShown);
        Due.run(TermsTest::results0To250);
        Due.run(TermsTest::negativeArguments);
        Due.run(TermsTest::orderOfTests);
        Due.run(TermsTest::refusedChangesNothing);
        Due.run(TermsTest::badSlot);
        Due.run(TermsTest::badSlotFirst);
        Due.run(TermsTest::askingChangesNothing);
        Due.end();
    }

    private static void lastCall() {
        Due.begin("\"used for at most 512 calls\": the 512th is still as promised");
        int[][] given = {{1, 5}, {1, 0, 0}, {1, 0, 0}, {1, 0, 2}, {1, 0, 2}, {1, 0, 0}, {1, 0, 2}, {0, 0, 1}, {0}, {0}, {0}, {0, 0}, {}};
        // 510 calls of shift leave 510 modulo 251.
        int[] due = {0, 0, 0, 0, 0, 0, 0, 0, 0, 1, 8, 1, 1};
        for (int i = 0; i < CALLS.length; i++) {
            SharedMachine x = new SharedMachine(i);
            Due.is("put(0, 0)", x.put(0, 0), 0);
            for (int call = 2; call <= 511; call++) {
                Due.is("shift(0, 0, 1) as call " + call, x.shift(0, 0, 1), 0);
            }
            Due.is(Known.text(CALLS[i][0], given[i]), Known.make(x, CALLS[i][0], given[i]), due[i]);
        }
    }

    private static SharedMachine full(int seed) {
        SharedMachine x = new SharedMachine(seed);
        for (int slot = 0; slot < 12; slot++) {
            Due.is("put(" + slot + ")", x.put(slot, 20 * slot + 1), 0);
        }
        return x;
    }

    private static void twelveSlots() {
        Due.begin("There are twelve SLOTS (0 to 11)");
        SharedMachine x = full(3);
        for (int slot = 0; slot < 12; slot++) {
            Due.is("open(" + slot + ") of twelve", x.open(slot), 20 * slot + 1);
        }
        for (String[] call : CALLS) {
            for (int place = 0; place < call[1].length(); place++) {
                for (int slot = 0; slot < 12 && call[1].charAt(place) == 's'; slot++) {
                    int[] given = arguments(call[1], 4);
                    given[place] = slot;
                    int answer = Known.make(full(slot), call[0], given);
                    Due.is(Known.text(call[0], given) + " is not refused", answer >= 0, true);
                }
            }
        }
    }

    private static void numbersFrom0To250() {
        Due.begin("each empty or holding a NUMBER modulo 251 (0 to 250)");
        for (int number = 0; number < 251; number++) {
            SharedMachine x = new SharedMachine(number);
            Due.is("open(7) before", x.open(7), EMPTY);
            Due.is("put(7, " + number + ")", x.put(7, number), 0);
            Due.is("open(7) after put(7, " + number + ")", x.open(7), number);
        }
        Known.fills(0, 0, "put", 5, 251);
        Known.fills(250, 0, "put", 5, -1);
    }

    private static void threeParties() {
        Due.begin("Three PARTIES (0 to 2)");
        for (int party = 0; party < 3; party++) {
            Known.fills(200, 9, "change", party, 0, 9);
        }
        Known.keeps(BAD_PARTY, "change", -1, 0, 9);
        Known.keeps(BAD_PARTY, "change", 3, 0, 9);
    }

    private static void splitNotSeen() {
        Due.begin("How numbers are split CAN'T BE SEEN");
        String due = answers(0, "nothing");
        for (int i = 0; i < 2000; i++) {
            int seed = i < 500 ? i - 250 : i * 1_000_003;
            Due.is("seed " + seed + ": " + due, answers(seed, "nothing").equals(due), true);
            Due.is("seed " + seed + " with refresh: " + due, answers(seed, "refresh").equals(due), true);
        }
    }

    /** The answers of one run of all calls; what is called between them, and must not be seen, is not in it. */
    private static String answers(int seed, String between) {
        SharedMachine x = new SharedMachine(seed);
        int[] numbers = {0, 1, 125, 250};
        StringBuilder all = new StringBuilder();
        for (int slot = 0; slot < 4; slot++) {
            all.append(x.put(slot, numbers[slot])).append(' ');
        }
        for (int round = 0; round < 3; round++) {
            all.append(x.change(round, round, 3)).append(' ').append(x.add(4, 0, 1)).append(' ');
            all.append(x.subtract(5, 2, 3)).append(' ').append(x.scale(6, 5, 7)).append(' ');
            all.append(x.shift(7, 6, 99)).append(' ').append(x.multiply(8, 3, 2)).append(' ');
            all.append(x.power(9, 3, 7)).append(' ').append(x.clear(10 + round % 2)).append(' ');
            for (int slot = -1; slot <= 12; slot++) {
                callBetween(x, between, slot);
            }
            for (int slot = 0; slot < 12; slot++) {
                all.append(x.open(slot)).append(' ').append(x.same(slot, 4)).append(' ');
            }
            all.append(x.filled()).append(' ');
        }
        return all.toString();
    }

    private static void callBetween(SharedMachine x, String between, int slot) {
        if (between.equals("refresh")) {
            x.refresh(slot);
        } else if (between.equals("questions")) {
            x.open(slot);
            x.same(slot, 2);
            x.same(4, slot);
            x.filled();
        }
    }

    private static void noErrorFromPut() {
        Due.begin("an ERROR modulo 251: 0 when it is filled by put");
        Known.fills(9, 0, "put", 5, 9);
        Known.fills(9, 0, "put", 0, 9);
        Known.fills(30, 0, "put", 2, 30);
        Known.fills(0, 0, "put", 7, 0);
        Known.fills(200, 0, "change", 0, 0, 251);
        Known.fills(30, 0, "change", 0, 2, 246);
    }

    private static void errorNeverShown() {
        Due.begin("a slot with an error other than 0 is never shown");
        int[] numbers = {0, 1, 125, 250};
        for (int number : numbers) {
            for (int error = 1; error < 251; error++) {
                SharedMachine x = new SharedMachine(number);
                Due.is("put(0)", x.put(0, number), 0);
                Due.is("change", x.change(error % 3, 0, error), 0);
                Due.is(number + " with the error " + error, x.open(0), TAMPERED);
                Due.is("refresh", x.refresh(0), 0);
                Due.is(number + " with the error " + error + ", split anew", x.open(0), TAMPERED);
                // By a copy the error goes along.
                Due.is("shift", x.shift(1, 0, -error), 0);
                Due.is(number + " with the error " + error + ", shifted", x.open(1), TAMPERED);
                Due.is("scale", x.scale(2, 0, 250), 0);
                Due.is(number + " with the error " + error + ", scaled", x.open(2), TAMPERED);
            }
        }
    }

    private static void results0To250() {
        Due.begin("All arithmetic of numbers and errors is modulo 251, results from 0 to 250");
        Known.fills(249, 0, "add", 5, 11, 11);
        Known.fills(0, 0, "add", 5, 11, 8);
        Known.fills(250, 0, "subtract", 5, 3, 8);
        Known.fills(1, 0, "subtract", 5, 3, 11);
        Known.fills(0, 0, "subtract", 5, 11, 11);
        Known.fills(1, 0, "scale", 5, 11, 250);
        Known.fills(0, 0, "scale", 5, 11, 251);
        Known.fills(0, 0, "shift", 5, 11, 1);
        Known.fills(249, 0, "shift", 5, 11, 250);
        Known.fills(1, 0, "multiply", 5, 11, 11);
        Known.fills(250, 0, "power", 5, 11, 15);
        Known.fills(191, 241, "add", 5, 4, 4);
        Known.fills(0, 0, "add", 5, 2, 4);
        Known.fills(60, 10, "subtract", 5, 2, 4);
        Known.fills(191, 241, "subtract", 5, 4, 2);
        Known.fills(1, 250, "scale", 5, 7, 250);
        Known.fills(30, 250, "change", 0, 2, 245);
        Known.fills(30, 0, "change", 0, 2, 246);
        Known.fills(30, 1, "change", 0, 2, 247);
    }

    private static void negativeArguments() {
        Due.begin("also for negative arguments");
        // -2147483648 is 64 modulo 251, and 2147483647 is 186.
        Known.fills(250, 0, "put", 5, -1);
        Known.fills(1, 0, "put", 5, -250);
        Known.fills(0, 0, "put", 5, -251);
        Known.fills(250, 0, "put", 5, -252);
        Known.fills(64, 0, "put", 5, MIN);
        Known.fills(186, 0, "put", 5, MAX);
        Known.fills(151, 0, "scale", 5, 1, -1);
        Known.fills(0, 0, "scale", 5, 1, -251);
        Known.fills(125, 0, "scale", 5, 1, MIN);
        Known.fills(26, 0, "scale", 5, 1, MAX);
        Known.fills(221, 246, "scale", 5, 2, -1);
        Known.fills(163, 69, "scale", 5, 2, MIN);
        Known.fills(58, 177, "scale", 5, 2, MAX);
        Known.fills(0, 0, "shift", 5, 1, -100);
        Known.fills(250, 0, "shift", 5, 1, -101);
        Known.fills(100, 0, "shift", 5, 1, -251);
        Known.fills(164, 0, "shift", 5, 1, MIN);
        Known.fills(35, 0, "shift", 5, 1, MAX);
        Known.fills(200, 250, "change", 0, 0, -1);
        Known.fills(200, 0, "change", 0, 0, -251);
        Known.fills(200, 64, "change", 0, 0, MIN);
        Known.fills(200, 186, "change", 0, 0, MAX);
        Known.fills(30, 0, "change", 0, 2, -5);
        Known.fills(30, 250, "change", 0, 2, -6);
        Known.fills(30, 69, "change", 0, 2, MIN);
        Known.fills(30, 191, "change", 0, 2, MAX);
        Known.fills(1, 0, "power", 5, 1, -16);
    }

    private static void orderOfTests() {
        Due.begin("All tests are made in the order in which they are named");
        String[] ofTwo = {"add", "subtract", "multiply"};
        for (String call : ofTwo) {
            Known.keeps(BAD_SLOT, call, 12, 5, 5);
            Known.keeps(BAD_SLOT, call, 0, 5, 12);
            Known.keeps(BAD_SLOT, call, 0, 12, 5);
        }
        Known.keeps(BAD_SLOT, "multiply", 12, 2, 2);
        Known.keeps(BAD_SLOT, "multiply", 0, 2, 12);
        Known.keeps(BAD_SLOT, "multiply", 0, 12, 2);
        Known.keeps(EMPTY, "multiply", 0, 2, 5);
        Known.keeps(EMPTY, "multiply", 0, 5, 2);
        String[] ofOne = {"scale", "shift", "power"};
        for (String call : ofOne) {
            Known.keeps(BAD_SLOT, call, 12, 5, 1);
        }
        Known.keeps(BAD_SLOT, "power", 12, 2, 1);
        Known.keeps(BAD_SLOT, "change", 3, 12, 1);
        Known.keeps(BAD_SLOT, "change", -1, -1, 1);
        Known.keeps(BAD_PARTY, "change", 3, 5, 1);
        Known.keeps(BAD_PARTY, "change", -1, 5, 1);
    }

    private static void refusedChangesNothing() {
        Due.begin("a refused call changes nothing");
        // 'to' holds a number, one with an error, or none.
        int[] targets = {0, 2, 6};
        String[] ofSlots = {"add", "subtract", "scale", "shift", "multiply", "power"};
        for (int to : targets) {
            for (String call : ofSlots) {
                Known.keeps(BAD_SLOT, call, to, 12, 1);
                Known.keeps(EMPTY, call, to, 5, 1);
            }
            Known.keeps(BAD_SLOT, "add", to, 1, -1);
            Known.keeps(EMPTY, "add", to, 1, 5);
            Known.keeps(BAD_SLOT, "subtract", to, 1, -1);
            Known.keeps(EMPTY, "subtract", to, 1, 5);
            Known.keeps(BAD_SLOT, "multiply", to, 1, -1);
            Known.keeps(EMPTY, "multiply", to, 1, 5);
            Known.keeps(TAMPERED, "multiply", to, 1, 2);
            Known.keeps(TAMPERED, "multiply", to, 2, 1);
            Known.keeps(TAMPERED, "power", to, 2, 1);
            Known.keeps(BAD_PARTY, "change", 3, to, 1);
            Known.keeps(BAD_PARTY, "change", -1, to, 1);
        }
        for (int slot : NO_SLOTS) {
            Known.keeps(BAD_SLOT, "put", slot, 9);
            Known.keeps(BAD_SLOT, "change", 0, slot, 9);
            Known.keeps(BAD_SLOT, "refresh", slot);
            Known.keeps(BAD_SLOT, "clear", slot);
        }
        Known.keeps(EMPTY, "change", 0, 5, 9);
        Known.keeps(EMPTY, "refresh", 5);
        Due.is("what is put after a refused change", putAfterRefusals(), 77);
    }

    /** A refused change must not wait in the empty slot for the next number. */
    private static int putAfterRefusals() {
        SharedMachine x = new SharedMachine(0);
        Due.is("change(0, 5, 9)", x.change(0, 5, 9), EMPTY);
        Due.is("change(3, 5, 9)", x.change(3, 5, 9), BAD_PARTY);
        Due.is("put(4, 77)", x.put(4, 77), 0);
        Due.is("shift(5, 4, 0)", x.shift(5, 4, 0), 0);
        return x.open(5);
    }

    private static void badSlot() {
        Due.begin("A slot not in 0 to 11 is BAD_SLOT");
        for (String[] call : CALLS) {
            for (int place = 0; place < call[1].length(); place++) {
                for (int i = 0; i < NO_SLOTS.length && call[1].charAt(place) == 's'; i++) {
                    int[] given = arguments(call[1], 1);
                    given[place] = NO_SLOTS[i];
                    Known.keeps(refusal(call[0]), call[0], given);
                }
            }
        }
    }

    private static void badSlotFirst() {
        Due.begin("it is tested for every slot of a call before anything else");
        // The other slots are tampered with, empty, or no slots themselves; the party is none.
        int[] others = {2, 5, -1, 12};
        for (String[] call : CALLS) {
            for (int place = 0; place < call[1].length(); place++) {
                for (int i = 0; i < others.length && call[1].charAt(place) == 's'; i++) {
                    int[] given = arguments(call[1].replace('p', 'x'), others[i]);
                    given[place] = 12;
                    Known.keeps(refusal(call[0]), call[0], given);
                    given[place] = -1;
                    Known.keeps(refusal(call[0]), call[0], given);
                }
            }
        }
    }

    /** Every slot of the call is this one, a party is 0, and any other number 7. */
    private static int[] arguments(String shape, int slot) {
        int[] given = new int[shape.length()];
        for (int i = 0; i < given.length; i++) {
            given[i] = shape.charAt(i) == 's' ? slot : shape.charAt(i) == 'p' ? 0 : 7;
        }
        return given;
    }

    private static int refusal(String call) {
        return call.equals("same") ? 0 : BAD_SLOT;
    }

    private static void askingChangesNothing() {
        Due.begin("The calls below change nothing that any call answers");
        Known.keeps(10, "filled");
        int[] slots = {-1, 0, 1, 2, 3, 4, 5, 6, 7, 8, 9, 10, 11, 12};
        int[] opened = {BAD_SLOT, 200, 100, TAMPERED, 0, TAMPERED, EMPTY, EMPTY, TAMPERED, 1, TAMPERED, 35, 250, BAD_SLOT};
        for (int i = 0; i < slots.length; i++) {
            Known.keeps(opened[i], "open", slots[i]);
            for (int j = 0; j < slots.length; j++) {
                Known.keeps(alike(slots[i], slots[j]) ? 1 : 0, "same", slots[i], slots[j]);
            }
        }
        Due.is("a run with questions between", answers(1, "questions").equals(answers(1, "nothing")), true);
    }

    private static boolean alike(int a, int b) {
        boolean held = a >= 0 && a < 12 && a != 5 && a != 6;
        boolean twins = a == 2 && b == 9 || a == 9 && b == 2;
        return held && a == b || twins;
    }
}
