import java.lang.reflect.InvocationTargetException;
import java.lang.reflect.Method;
import java.lang.reflect.Modifier;
import java.nio.charset.StandardCharsets;
import java.util.Arrays;
import java.util.Comparator;
import java.util.NoSuchElementException;

/** What all tests use: due answers, and texts fed to an object. */
abstract class Suite {
    /** An answer of a call that throws NoSuchElementException. */
    static final long THROWS = Long.MIN_VALUE;

    interface Call {
        long answer();
    }

    interface CallOf {
        long answer(int number);
    }

    private int passed = 0;
    private int failed = 0;
    private String test = "";

    void due(String what, long got, long want) {
        if (got == want) {
            passed++;
        } else {
            fail(what + " answered " + got + ", due is " + want);
        }
    }

    void due(String what, boolean got, boolean want) {
        due(what, got ? 1 : 0, want ? 1 : 0);
    }

    void due(String what, String got, String want) {
        if (got.equals(want)) {
            passed++;
        } else {
            fail(what + " answered " + got + ", due is " + want);
        }
    }

    private void fail(String what) {
        failed++;
        System.out.println(test + what);
    }

    void dueThrow(String what, Call call) {
        due(what, answer(call), THROWS);
    }

    /** The call answers something from low to high, and NONE for what lies beside them. */
    void noneBeside(String what, int low, int high, CallOf call) {
        due(what + " " + low + " is taken", call.answer(low) != LastsEvening.NONE, true);
        due(what + " " + high + " is taken", call.answer(high) != LastsEvening.NONE, true);
        for (int number : beside(low, high)) {
            due(what + " " + number, call.answer(number), LastsEvening.NONE);
        }
    }

    /** The call answers something from low to high, and throws for what lies beside them. */
    void throwsBeside(String what, int low, int high, CallOf call) {
        due(what + " " + low + " is taken", answer(() -> call.answer(low)) != THROWS, true);
        due(what + " " + high + " is taken", answer(() -> call.answer(high)) != THROWS, true);
        for (int number : beside(low, high)) {
            dueThrow(what + " " + number, () -> call.answer(number));
        }
    }

    private static int[] beside(int low, int high) {
        return new int[] {low - 1, high + 1, Integer.MIN_VALUE, Integer.MAX_VALUE};
    }

    /** Any exception but the one that the document names goes on to the top, and fails the run. */
    static long answer(Call call) {
        try {
            return call.answer();
        } catch (NoSuchElementException e) {
            return THROWS;
        }
    }

    static LastsEvening fed(LastsEvening x, String text) {
        byte[] signs = text.getBytes(StandardCharsets.ISO_8859_1);
        for (int i = 0; i < signs.length; i += 24) {
            byte[] part = Arrays.copyOf(Arrays.copyOfRange(signs, i, Math.min(signs.length, i + 24)), 24);
            x.feed(number(part, 0), number(part, 8), number(part, 16));
        }
        return x;
    }

    static long number(byte[] signs, int from) {
        long number = 0;
        for (int i = from; i < from + 8; i++) {
            number = number << 8 | signs[i] & 255;
        }
        return number;
    }

    static LastsEvening in(String house) {
        LastsEvening x = fed(new LastsEvening(), house);
        if (x.house() != 0) {
            throw new IllegalStateException("no house: " + house);
        }
        return x;
    }

    static LastsEvening on(String house, String evening) {
        LastsEvening x = fed(in(house), evening);
        if (x.evening() != 0) {
            throw new IllegalStateException("no evening: " + evening);
        }
        return x;
    }

    /** A house whose light is off. */
    static LastsEvening dark(String house) {
        LastsEvening x = in(house);
        x.off();
        return x;
    }

    /** A house whose evening is over, the light on. */
    static LastsEvening over(String house) {
        return ended(in(house));
    }

    static LastsEvening ended(LastsEvening x) {
        for (int i = x.count(0); i > 0; i--) {
            x.quarter();
        }
        return x;
    }

    /** A house in whose first quarter so many came, were given so, and in whose second one it is now. */
    static LastsEvening gone(String house, int came, int how) {
        LastsEvening x = in(house);
        x.come(came);
        x.give(how);
        x.quarter();
        return x;
    }

    static int houseFault(String text) {
        return fed(new LastsEvening(), text).house();
    }

    static int eveningFault(String text) {
        return fed(new LastsEvening(), text).evening();
    }

    /** What a habit gives to two, of 40 toffees and 3 apples, in the first of five quarters: 0 to 4. */
    static long given(String e) {
        LastsEvening x = in("house 5;bowl 40;apples 3 worth 50;worths 9 5 2;calls 0 to 0 0 0 10 0;habit a " + e + ";");
        long[] worths = {0, 18, 28, 32, 100};
        for (int how = 0; how < 5; how++) {
            if (x.mean(0) == 1000 * worths[how]) {
                return how;
            }
        }
        return -1;
    }

    /** All that can be seen of an evening by hand, and of the one that was read. */
    static String state(LastsEvening x) {
        StringBuilder text = new StringBuilder();
        for (int what = 0; what <= 14; what++) {
            text.append(x.count(what)).append(' ');
        }
        text.append("score ").append(x.score()).append(" rains ").append(x.rains()).append(" judged");
        for (int what = 0; what <= 2; what++) {
            text.append(' ').append(x.judged(what));
        }
        return text.toString();
    }

    /** A call that is refused with this answer, and changes nothing. */
    void refused(String what, LastsEvening x, long want, Call call) {
        String before = state(x);
        due(what, answer(call), want);
        due(what + " changes nothing", state(x), before);
    }

    /** Runs every test of the class: its methods without parameters that answer nothing; then closes. */
    void runAll() {
        Method[] methods = getClass().getDeclaredMethods();
        Arrays.sort(methods, Comparator.comparing(Method::getName));
        for (Method method : methods) {
            if (method.getParameterCount() == 0 && method.getReturnType() == void.class && !Modifier.isStatic(method.getModifiers())) {
                runOne(method);
            }
        }
        test = "";
        close();
    }

    private void runOne(Method method) {
        int before = passed + failed;
        test = method.getName() + ": ";
        try {
            method.invoke(this);
        } catch (InvocationTargetException e) {
            fail("thrown: " + e.getCause());
        } catch (IllegalAccessException e) {
            fail("not reached: " + e);
        }
        if (passed + failed == before) {
            fail("tests nothing");
        }
    }

    /** Prints how many passed and failed, and ends with exit code 1 if one failed. */
    void close() {
        System.out.println(getClass().getSimpleName() + ": " + passed + " passed, " + failed + " failed");
        if (failed != 0 || passed == 0) {
            System.exit(1);
        }
    }
}
