import java.nio.charset.StandardCharsets;
import java.util.Arrays;
import java.util.NoSuchElementException;

/** What all tests use: due answers, and texts fed to an object. */
abstract class Suite {
    /** An answer of a call that throws NoSuchElementException. */
    static final long THROWS = Long.MIN_VALUE;

    interface Call {
        long answer();
    }

    private int passed = 0;
    private int failed = 0;

    void due(String what, long got, long want) {
        if (got == want) {
            passed++;
        } else {
            failed++;
            System.out.println(what + " answered " + got + ", due is " + want);
        }
    }

    void due(String what, boolean got, boolean want) {
        due(what, got ? 1 : 0, want ? 1 : 0);
    }

    void dueThrow(String what, Call call) {
        due(what, answer(call), THROWS);
    }

    /** Any exception but the one that the document names goes on to the top, and fails the run. */
    static long answer(Call call) {
        try {
            return call.answer();
        } catch (NoSuchElementException e) {
            return THROWS;
        }
    }

    static LastsEvening fed(LastsEvening x, String text) {
        byte[] signs = text.getBytes(StandardCharsets.ISO_8859_1);
        for (int i = 0; i < signs.length; i += 24) {
            byte[] part = Arrays.copyOf(Arrays.copyOfRange(signs, i, Math.min(signs.length, i + 24)), 24);
            x.feed(number(part, 0), number(part, 8), number(part, 16));
        }
        return x;
    }

    static long number(byte[] signs, int from) {
        long number = 0;
        for (int i = from; i < from + 8; i++) {
            number = number << 8 | signs[i] & 255;
        }
        return number;
    }

    static LastsEvening in(String house) {
        LastsEvening x = fed(new LastsEvening(), house);
        if (x.house() != 0) {
            throw new IllegalStateException("no house: " + house);
        }
        return x;
    }

    static LastsEvening on(String house, String evening) {
        LastsEvening x = fed(in(house), evening);
        if (x.evening() != 0) {
            throw new IllegalStateException("no evening: " + evening);
        }
        return x;
    }

    static int houseFault(String text) {
        return fed(new LastsEvening(), text).house();
    }

    static int eveningFault(String text) {
        return fed(new LastsEvening(), text).evening();
    }

    /** Prints how many passed and failed, and ends with exit code 1 if one failed. */
    void close() {
        System.out.println(getClass().getSimpleName() + ": " + passed + " passed, " + failed + " failed");
        if (failed != 0 || passed == 0) {
            System.exit(1);
        }
    }
}
