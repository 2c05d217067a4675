import java.io.IOException;
import java.nio.charset.StandardCharsets;
import java.nio.file.Files;
import java.nio.file.Path;
import java.util.NoSuchElementException;
import java.util.function.LongSupplier;

/** What the tests share: answers compared with those that are due, and texts put on the TAPE. */
final class Due {
    static final Class<IndexOutOfBoundsException> NO_SUCH = IndexOutOfBoundsException.class;
    static final Class<IllegalStateException> NOT_LAID = IllegalStateException.class;
    static final Class<IllegalArgumentException> WRONG = IllegalArgumentException.class;
    static final Class<UnsupportedOperationException> TOO_MANY = UnsupportedOperationException.class;
    static final Class<NoSuchElementException> NO_WHAT = NoSuchElementException.class;

    private static final String DOCUMENT = document();
    private static int wrong = 0;
    private static int asked = 0;
    private static String sentence = "";

    private Due() {
    }

    static void due(String call, long got, long want) {
        asked++;
        if (got != want) {
            wrong++;
            System.out.println(sentence + call + " answered " + got + ", due is " + want);
        }
    }

    static void due(String call, boolean got, boolean want) {
        due(call, got ? 1L : 0L, want ? 1L : 0L);
    }

    static void refuses(String call, Class<? extends RuntimeException> want, LongSupplier run) {
        asked++;
        String got;
        try {
            got = "answered " + run.getAsLong();
        } catch (RuntimeException thrown) {
            got = "threw " + thrown.getClass().getSimpleName();
            if (thrown.getClass() == want) {
                return;
            }
        }
        wrong++;
        System.out.println(sentence + call + " " + got + ", due is " + want.getSimpleName());
    }

    /** The answers behind this are due by these words, which the document has, if the tests were told where it is. */
    static void says(String words) {
        sentence = "\"" + words + "\": ";
        asked++;
        if (!DOCUMENT.isEmpty() && !DOCUMENT.contains(words)) {
            wrong++;
            System.out.println(sentence + "the document has no such words");
        }
    }

    private static String document() {
        String place = System.getProperty("document", "");
        if (place.isEmpty()) {
            return "";
        }
        try {
            String text = new String(Files.readAllBytes(Path.of(place)), StandardCharsets.UTF_8);
            return text.replaceAll("\\s+", " ");
        } catch (IOException unread) {
            System.out.println("no document at " + place + ": whether it has the words is not looked at");
            return "";
        }
    }

    /** The project's folder, if the tests were told where it is; else the one in which they run. */
    static String project() {
        return System.getProperty("project", ".");
    }

    static String fileOfProject(String name) throws IOException {
        return new String(Files.readAllBytes(Path.of(project(), name)), StandardCharsets.UTF_8);
    }

    static InnNight inn(int guests) {
        InnNight x = new InnNight();
        for (int guest = 0; guest < guests; guest++) {
            x.guest();
        }
        return x;
    }

    static InnNight inn(int guests, String text) {
        InnNight x = inn(guests);
        tell(x, text);
        return x;
    }

    /** Puts a text on an empty TAPE. */
    static void tape(InnNight x, String text) {
        int[] bytes = new int[text.length()];
        for (int k = 0; k < bytes.length; k++) {
            bytes[k] = text.charAt(k);
        }
        tape(x, bytes);
    }

    static void tape(InnNight x, int... bytes) {
        x.end(0);
        int[] words = new int[(bytes.length + 19) / 20 * 5];
        for (int k = 0; k < bytes.length; k++) {
            words[k / 4] |= (bytes[k] & 255) << 24 - 8 * (k % 4);
        }
        for (int k = 0; k < words.length; k += 5) {
            x.feed(words[k], words[k + 1], words[k + 2], words[k + 3], words[k + 4]);
        }
        x.end(bytes.length);
    }

    static int tell(InnNight x, String text) {
        tape(x, text);
        return x.memory();
    }

    static int list(InnNight x, int guests, int... bytes) {
        tape(x, bytes);
        return x.list(guests);
    }

    static void close() {
        System.out.println(asked + " answers asked, " + wrong + " wrong");
        if (wrong != 0 || asked == 0) {
            System.exit(1);
        }
    }
}
