import java.util.function.LongSupplier;

/** What the tests share: answers compared with those that are due, and texts put on the TAPE. */
final class Due {
    private static int wrong = 0;
    private static int asked = 0;

    private Due() {
    }

    static void due(String call, long got, long want) {
        asked++;
        if (got != want) {
            wrong++;
            System.out.println(call + " answered " + got + ", due is " + want);
        }
    }

    static void due(String call, boolean got, boolean want) {
        due(call, got ? 1L : 0L, want ? 1L : 0L);
    }

    static void refuses(String call, Class<? extends RuntimeException> want, LongSupplier run) {
        asked++;
        String got;
        try {
            got = "answered " + run.getAsLong();
        } catch (RuntimeException thrown) {
            got = "threw " + thrown.getClass().getSimpleName();
            if (thrown.getClass() == want) {
                return;
            }
        }
        wrong++;
        System.out.println(call + " " + got + ", due is " + want.getSimpleName());
    }

    static InnNight inn(int guests) {
        InnNight x = new InnNight();
        for (int guest = 0; guest < guests; guest++) {
            x.guest();
        }
        return x;
    }

    static InnNight inn(int guests, String text) {
        InnNight x = inn(guests);
        tell(x, text);
        return x;
    }

    /** Puts a text on an empty TAPE. */
    static void tape(InnNight x, String text) {
        int[] bytes = new int[text.length()];
        for (int k = 0; k < bytes.length; k++) {
            bytes[k] = text.charAt(k);
        }
        tape(x, bytes);
    }

    static void tape(InnNight x, int... bytes) {
        x.end(0);
        int[] words = new int[(bytes.length + 19) / 20 * 5];
        for (int k = 0; k < bytes.length; k++) {
            words[k / 4] |= (bytes[k] & 255) << 24 - 8 * (k % 4);
        }
        for (int k = 0; k < words.length; k += 5) {
            x.feed(words[k], words[k + 1], words[k + 2], words[k + 3], words[k + 4]);
        }
        x.end(bytes.length);
    }

    static int tell(InnNight x, String text) {
        tape(x, text);
        return x.memory();
    }

    static int list(InnNight x, int guests, int... bytes) {
        tape(x, bytes);
        return x.list(guests);
    }

    static void close() {
        System.out.println(asked + " answers asked, " + wrong + " wrong");
        if (wrong != 0 || asked == 0) {
            System.exit(1);
        }
    }
}
