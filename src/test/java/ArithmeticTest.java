/** The whole range of numbers and errors, pair by pair, so that no wrap-around is left out. */
public final class ArithmeticTest {
    public static void main(String[] args) {
        for (int a = 0; a < 251; a++) {
            for (int b = 0; b < 251; b++) {
                numbers(a, b);
                errors(a, b);
            }
            powers(a);
        }
        wideArguments(Integer.MIN_VALUE);
        wideArguments(-30000);
        wideArguments(0);
        wideArguments(Integer.MAX_VALUE - 30000);
        Due.end();
    }

    private static void numbers(int a, int b) {
        Due.begin("the numbers " + a + " and " + b);
        SharedMachine x = new SharedMachine(a + 251 * b);
        x.put(0, a);
        x.put(1, b);
        x.add(2, 0, 1);
        x.subtract(3, 0, 1);
        x.scale(4, 0, b);
        x.scale(5, 0, -b);
        x.shift(6, 0, b);
        x.shift(7, 0, -b);
        x.multiply(8, 0, 1);
        int[] due = {a, b, a + b, a - b, a * b, -a * b, a + b, a - b, a * b};
        for (int slot = 0; slot < due.length; slot++) {
            Due.is("open(" + slot + ")", x.open(slot), Math.floorMod(due[slot], 251));
        }
        Due.is("same", x.same(0, 1), a == b);
    }

    private static void errors(int a, int b) {
        Due.begin("the errors " + a + " and " + b);
        SharedMachine x = new SharedMachine(a - 251 * b);
        x.put(0, 77);
        x.put(1, 77);
        x.change(a % 3, 0, a);
        x.change(b % 3, 1, b);
        Due.is("same", x.same(0, 1), a == b);
        Due.is("multiply", x.multiply(2, 0, 1), a == 0 && b == 0 ? 0 : SharedMachine.TAMPERED);
        x.add(2, 0, 1);
        x.subtract(3, 0, 1);
        x.scale(4, 0, b);
        x.scale(5, 0, -b);
        x.shift(6, 0, b);
        x.shift(7, 0, 0);
        x.change(2, 7, b);
        int[] number = {77, 77, 154, 0, 77 * b, -77 * b, 77 + b, 77};
        int[] error = {a, b, a + b, a - b, a * b, -a * b, a, a + b};
        for (int slot = 0; slot < error.length; slot++) {
            int due = Math.floorMod(number[slot], 251);
            boolean shown = error[slot] % 251 == 0;
            Due.is("open(" + slot + ")", x.open(slot), shown ? due : SharedMachine.TAMPERED);
            x.change(slot % 3, slot, -error[slot]);
            Due.is("open(" + slot + ") without its error", x.open(slot), due);
        }
    }

    private static void powers(int a) {
        int due = 1;
        for (int n = 0; n < 16; n++) {
            Due.begin(a + " to the power of " + n);
            SharedMachine x = new SharedMachine(a + n);
            x.put(0, a);
            x.power(1, 0, n);
            x.power(2, 0, n - 16);
            x.power(3, 0, n + 16);
            for (int slot = 1; slot < 4; slot++) {
                Due.is("open(" + slot + ")", x.open(slot), due);
            }
            due = due * a % 251;
        }
    }

    /** Thirty thousand arguments from the given one on. */
    private static void wideArguments(int first) {
        for (int i = 0; i <= 30000; i++) {
            int n = first + i;
            Due.begin("the argument " + n);
            SharedMachine x = new SharedMachine(n);
            x.put(0, n);
            x.put(1, 250);
            x.put(2, 9);
            x.scale(3, 1, n);
            x.shift(4, 1, n);
            x.change(i % 3, 2, n);
            Due.is("put", x.open(0), Math.floorMod(n, 251));
            Due.is("scale", x.open(3), Math.floorMod(250L * n, 251L));
            Due.is("shift", x.open(4), Math.floorMod(250L + n, 251L));
            x.change(0, 2, -Math.floorMod(n, 251));
            Due.is("change", x.open(2), 9);
        }
    }
}
