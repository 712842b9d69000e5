import java.lang.reflect.Constructor;
import java.lang.reflect.Field;
import java.lang.reflect.Method;
import java.lang.reflect.Modifier;
import java.util.TreeSet;

/** What no answer tells: the face of the class, and that its parts are what the document calls parts. */
public final class PartsTest {
    private static final int SEEDS = 20000;

    public static void main(String[] args) throws ReflectiveOperationException {
        face();
        partsAddUp();
        onePartSaysNothing();
        refreshSplitsAnew();
        Due.end();
    }

    private static int[] partsOf(SharedMachine x, int slot) throws ReflectiveOperationException {
        Field field = SharedMachine.class.getDeclaredField("parts");
        field.setAccessible(true);
        int[] all = (int[]) field.get(x);
        return new int[] {all[slot * 3], all[slot * 3 + 1], all[slot * 3 + 2]};
    }

    private static void face() {
        Due.begin("the face");
        TreeSet<String> members = new TreeSet<>();
        for (Method one : SharedMachine.class.getDeclaredMethods()) {
            if (!Modifier.isPrivate(one.getModifiers())) {
                members.add(one.toString().replace("SharedMachine.", ""));
            }
        }
        for (Field one : SharedMachine.class.getDeclaredFields()) {
            if (!Modifier.isPrivate(one.getModifiers())) {
                members.add(one.toString().replace("SharedMachine.", ""));
            }
        }
        for (Constructor<?> one : SharedMachine.class.getDeclaredConstructors()) {
            members.add(one.toString());
        }
        String want = "[public SharedMachine(int), public boolean same(int,int), public int add(int,int,int), "
            + "public int change(int,int,int), public int clear(int), public int filled(), "
            + "public int multiply(int,int,int), public int open(int), public int power(int,int,int), "
            + "public int put(int,int), public int refresh(int), public int scale(int,int,int), "
            + "public int shift(int,int,int), public int subtract(int,int,int), "
            + "public static final int BAD_PARTY, public static final int BAD_SLOT, "
            + "public static final int EMPTY, public static final int TAMPERED]";
        Due.is("members " + members, members.toString().equals(want), true);
        Due.is("final", Modifier.isFinal(SharedMachine.class.getModifiers()), true);
        Due.is("BAD_SLOT", SharedMachine.BAD_SLOT, -1);
        Due.is("EMPTY", SharedMachine.EMPTY, -2);
        Due.is("TAMPERED", SharedMachine.TAMPERED, -3);
        Due.is("BAD_PARTY", SharedMachine.BAD_PARTY, -4);
    }

    private static void partsAddUp() throws ReflectiveOperationException {
        Due.begin("the sum of the parts");
        SharedMachine x = new SharedMachine(5);
        x.put(0, 200);
        x.put(1, 100);
        x.multiply(2, 0, 1);
        x.shift(3, 2, 99);
        x.subtract(4, 0, 3);
        int[] due = {200, 100, 171, 19, 181};
        for (int slot = 0; slot < due.length; slot++) {
            int[] parts = partsOf(x, slot);
            Due.is("slot " + slot, (parts[0] + parts[1] + parts[2]) % 251, due[slot]);
        }
        int[] before = partsOf(x, 1);
        x.change(2, 1, 4);
        int[] after = partsOf(x, 1);
        Due.is("part 0 after party 2's change", after[0], before[0]);
        Due.is("part 1 after party 2's change", after[1], before[1]);
        Due.is("part 2 after party 2's change", after[2], (before[2] + 4) % 251);
    }

    /** Over many seeds each part takes every value about as often, whatever the number and the call that made it. */
    private static void onePartSaysNothing() throws ReflectiveOperationException {
        int[] numbers = {0, 1, 250};
        for (int number : numbers) {
            Due.begin("one part, where slot 1 held " + number);
            evenParts(number, "put", 0, number);
            evenParts(number, "add", 0, 1, 1);
            evenParts(number, "add", 0, 1, 2);
            evenParts(number, "subtract", 0, 1, 2);
            evenParts(number, "subtract", 0, 1, 1);
            evenParts(number, "scale", 0, 1, 2);
            evenParts(number, "scale", 0, 1, 0);
            evenParts(number, "scale", 0, 1, 251);
            evenParts(number, "shift", 0, 1, 1);
            evenParts(number, "multiply", 0, 1, 2);
            evenParts(number, "power", 0, 1, 3);
            evenParts(number, "power", 0, 1, 0);
            evenParts(number, "change", 0, 1, 5);
            evenParts(number, "refresh", 1);
        }
    }

    private static void evenParts(int number, String call, int... given) throws ReflectiveOperationException {
        int slot = call.equals("change") ? given[1] : given[0];
        int[] counts = new int[3 * 251];
        for (int seed = 0; seed < SEEDS; seed++) {
            SharedMachine x = new SharedMachine(seed * 7919);
            x.put(1, number);
            x.put(2, 77);
            Known.make(x, call, given);
            int[] parts = partsOf(x, slot);
            for (int party = 0; party < 3; party++) {
                counts[party * 251 + parts[party]]++;
            }
        }
        for (int i = 0; i < counts.length; i++) {
            boolean even = counts[i] > SEEDS / 251 / 3 && counts[i] < SEEDS / 251 * 3;
            Due.is(Known.text(call, given) + ": party " + i / 251 + " has part " + i % 251 + " "
                + counts[i] + " times", even, true);
        }
    }

    private static void refreshSplitsAnew() throws ReflectiveOperationException {
        Due.begin("refresh");
        SharedMachine x = new SharedMachine(0);
        x.put(0, 17);
        x.change(1, 0, 3);
        TreeSet<String> seen = new TreeSet<>();
        for (int i = 0; i < 50; i++) {
            int[] parts = partsOf(x, 0);
            seen.add(parts[0] + " " + parts[1] + " " + parts[2]);
            Due.is("sum of the parts", (parts[0] + parts[1] + parts[2]) % 251, 20);
            x.refresh(0);
        }
        Due.is("many ways to split", seen.size() > 40, true);
    }
}
