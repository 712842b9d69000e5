/**
 * A machine whose twelve slots are known. Each check makes one call on a new one, looks at its answer,
 * and then at every slot: a call changes what it is told to and nothing else.
 */
public final class Known {
    private static final int NOTHING = -1;
    private static final int[] SEEDS = {0, 1, -1, 7916, Integer.MIN_VALUE, Integer.MAX_VALUE};

    // Slots 2 and 9 are alike, 4 has the opposite number and error of 2, 10 holds what 2 would
    // show, 7 would show 0, and 5 and 6 are empty.
    private static final int[] NUMBERS = {200, 100, 30, 0, 221, NOTHING, NOTHING, 250, 1, 30, 35, 250};
    private static final int[] ERRORS = {0, 0, 5, 0, 246, 0, 0, 1, 0, 5, 0, 0};

    private final String name;
    private final SharedMachine machine;
    private final int[] numbers = NUMBERS.clone();
    private final int[] errors = ERRORS.clone();

    private Known(int seed, String name) {
        this.name = "seed " + seed + ", " + name;
        machine = new SharedMachine(seed);
        for (int slot = 0; slot < 12; slot++) {
            if (numbers[slot] != NOTHING) {
                Due.is("put(" + slot + ", " + numbers[slot] + ")", machine.put(slot, numbers[slot]), 0);
            }
            if (errors[slot] != 0) {
                Due.is("change(1, " + slot + ", " + errors[slot] + ")", machine.change(1, slot, errors[slot]), 0);
            }
        }
    }

    /** The call answers this and changes no slot. */
    public static void keeps(int due, String call, int... given) {
        for (int seed : SEEDS) {
            Known known = new Known(seed, text(call, given));
            Due.is(known.name, make(known.machine, call, given), due);
            known.look();
        }
    }

    /** The call answers 0, and the slot that it is told to change then holds this. */
    public static void fills(int number, int error, String call, int... given) {
        int slot = call.equals("change") ? given[1] : given[0];
        for (int seed : SEEDS) {
            Known known = new Known(seed, text(call, given));
            Due.is(known.name, make(known.machine, call, given), 0);
            known.numbers[slot] = number;
            known.errors[slot] = error;
            known.look();
        }
    }

    /** The slot held a number, and is empty after clear. */
    public static void isCleared(int slot) {
        for (int seed : SEEDS) {
            Known known = new Known(seed, "clear(" + slot + ")");
            Due.is(known.name, known.machine.clear(slot), 1);
            known.numbers[slot] = NOTHING;
            known.errors[slot] = 0;
            known.look();
        }
    }

    /** A call by its name; a boolean answer counts 1 or 0. */
    public static int make(SharedMachine x, String call, int... given) {
        switch (call) {
            case "put": return x.put(given[0], given[1]);
            case "add": return x.add(given[0], given[1], given[2]);
            case "subtract": return x.subtract(given[0], given[1], given[2]);
            case "scale": return x.scale(given[0], given[1], given[2]);
            case "shift": return x.shift(given[0], given[1], given[2]);
            case "multiply": return x.multiply(given[0], given[1], given[2]);
            case "power": return x.power(given[0], given[1], given[2]);
            case "change": return x.change(given[0], given[1], given[2]);
            case "refresh": return x.refresh(given[0]);
            case "clear": return x.clear(given[0]);
            case "open": return x.open(given[0]);
            case "same": return x.same(given[0], given[1]) ? 1 : 0;
            case "filled": return x.filled();
            default: throw new IllegalArgumentException(call);
        }
    }

    public static String text(String call, int... given) {
        StringBuilder all = new StringBuilder(call).append('(');
        for (int i = 0; i < given.length; i++) {
            all.append(i == 0 ? "" : ", ").append(given[i]);
        }
        return all.append(')').toString();
    }

    private void look() {
        int filled = 0;
        int spare = 0;
        for (int slot = 0; slot < 12; slot++) {
            Due.is(name + ", then open(" + slot + ")", machine.open(slot), shown(slot));
            filled += numbers[slot] == NOTHING ? 0 : 1;
            // One call fills one slot at most: 5 or 6 is always empty here.
            spare = numbers[slot] == NOTHING ? slot : spare;
        }
        Due.is(name + ", then filled()", machine.filled(), filled);
        for (int slot = 0; slot < 12; slot++) {
            if (numbers[slot] != NOTHING) {
                lookInto(slot, spare);
            }
        }
    }

    private int shown(int slot) {
        if (numbers[slot] == NOTHING) {
            return SharedMachine.EMPTY;
        }
        return errors[slot] == 0 ? numbers[slot] : SharedMachine.TAMPERED;
    }

    /** What open does not tell: the number behind an error, and the error itself. */
    private void lookInto(int slot, int spare) {
        String looked = name + ", then slot " + slot;
        Due.is(looked + ": put beside it", machine.put(spare, numbers[slot]), 0);
        Due.is(looked + ": change beside it", machine.change(2, spare, errors[slot]), 0);
        Due.is(looked + ": same as " + numbers[slot] + " with the error " + errors[slot],
            machine.same(slot, spare) && machine.same(spare, slot), true);
        Due.is(looked + ": change back", machine.change(0, slot, 251 - errors[slot]), 0);
        Due.is(looked + ": open without the error " + errors[slot], machine.open(slot), numbers[slot]);
    }
}
