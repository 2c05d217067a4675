import java.lang.management.ManagementFactory;
import java.util.Arrays;
import java.util.NoSuchElementException;
import java.util.Random;

/**
 * Any call with any arguments in any state: it throws what the face tells and nothing else, a call that throws
 * changes nothing but the TAPE and fault(), questions change nothing, and no call leaves much behind.
 */
public final class AnyCallTest {
    private static final int CALLS = 44;
    private static final int LIST = 39;
    private static final int IMAGE = 41;
    private static final int BACK = 42;
    private static final int[] EDGES = {0, 1, 2, 3, 4, 7, 8, 9, 10, 31, 32, 39, 40, 60, 61, 63, 64, 99, 100, 400, 401,
        511, 512, 1 << 30, -1, -2, -31, -32, Integer.MIN_VALUE, Integer.MAX_VALUE};
    private static final String[] WORDS = {"met", "apart", "open", "ahead"};

    public static void main(String[] args) {
        for (long seed = 0; seed < 300; seed++) {
            run(new Random(seed), seed);
        }
        room();
        Due.close();
    }

    private static void run(Random random, long seed) {
        InnNight x = new InnNight();
        InnNight twin = new InnNight();
        int guests = random.nextInt(10);
        for (int k = 0; k < guests; k++) {
            x.guest();
            twin.guest();
        }
        for (int n = 0; n < 60; n++) {
            if (random.nextInt(4) == 0) {
                byte[] text = textOf(random, Math.max(2, guests)).getBytes();
                put(x, text);
                put(twin, text);
            }
            int which = random.nextInt(CALLS);
            int a = any(random);
            int b = any(random);
            int c = any(random);
            boolean is = random.nextBoolean();
            long[] before = answers(x);
            String name = "seed " + seed + ", call " + n + ", which " + which + " (" + a + ", " + b + ", " + c + ")";
            boolean threw = !compareCalls(name, x, twin, which, new int[] {a, b, c}, is);
            if (threw || isQuestion(which)) {
                Due.due(name + " changes nothing", Arrays.equals(before, answers(x)), true);
            }
        }
        Due.due("seed " + seed + " both alike", Arrays.equals(answers(x), answers(twin)), true);
    }

    /** The twin is asked nothing but the calls themselves: what was asked between may not show. */
    private static boolean compareCalls(String name, InnNight x, InnNight twin, int which, int[] with, boolean is) {
        Object got = outcome(x, which, with, is);
        Object other = outcome(twin, which, with, is);
        Due.due(name + " answers its twin's " + other + ": " + got, got.equals(other), true);
        boolean isThrown = got instanceof Class<?>;
        if (isThrown) {
            Due.due(name + " may throw " + got, mayThrow(which).contains(((Class<?>) got).getName()), true);
        }
        return !isThrown;
    }

    private static Object outcome(InnNight x, int which, int[] with, boolean is) {
        try {
            return call(x, which, with[0], with[1], with[2], is);
        } catch (RuntimeException thrown) {
            return thrown.getClass();
        }
    }

    private static String mayThrow(int which) {
        String index = IndexOutOfBoundsException.class.getName() + " ";
        String argument = IllegalArgumentException.class.getName() + " ";
        String state = IllegalStateException.class.getName() + " ";
        String element = NoSuchElementException.class.getName() + " ";
        String unsupported = UnsupportedOperationException.class.getName() + " ";
        switch (which) {
            case 2: return unsupported;
            case 3: return argument + unsupported;
            case 5: return index + element;
            case 6: case 7: case 9: case 33: case 37: case 38: return index;
            case 12: case 27: case 28: case 29: case 40: return element;
            case 13: case 35: return state;
            case 14: case 22: case 34: return index + state;
            case 21: return state + element;
            case 26: return index + argument;
            case 39: return argument;
            default: return "";
        }
    }

    private static boolean isQuestion(int which) {
        return which > 3 && which != 6 && which != 26 && which != LIST && which != BACK;
    }

    private static int any(Random random) {
        return random.nextInt(3) != 0 ? random.nextInt(10) : EDGES[random.nextInt(EDGES.length)];
    }

    private static String textOf(Random random, int guests) {
        StringBuilder text = new StringBuilder();
        for (int k = 1 + random.nextInt(12); k > 0; k--) {
            int a = random.nextInt(guests);
            int b = (a + 1 + random.nextInt(guests - 1)) % guests;
            text.append(random.nextInt(3) == 0 ? WORDS[random.nextInt(4)] : "met").append(' ').append(a).append(' ')
                    .append(b).append(random.nextInt(4) == 0 ? " by " + a : "")
                    .append(random.nextInt(4) == 0 ? " sure " + (1 + random.nextInt(99)) : "").append(k > 1 ? ";" : "");
        }
        return text.toString();
    }

    private static void put(InnNight x, byte[] text) {
        int[] bytes = new int[text.length];
        for (int k = 0; k < bytes.length; k++) {
            bytes[k] = text[k];
        }
        Due.tape(x, bytes);
        try {
            x.memory();
        } catch (IllegalArgumentException | UnsupportedOperationException refused) {
            return;
        }
    }

    /** What may not change where a call throws: all but the TAPE and fault(), and THE IMAGE that cannot be seen. */
    private static long[] answers(InnNight x) {
        long[] all = new long[400];
        int at = 0;
        for (int what = 0; what < 7; what++) {
            all[at++] = x.sum(what);
        }
        for (int what = 0; what < 5; what++) {
            all[at++] = x.listed(what);
        }
        for (int what = 0; what < 4; what++) {
            all[at++] = x.judge(what);
        }
        for (int memory = 0; memory < x.sum(1); memory++) {
            for (int what = 0; what < 7; what++) {
                all[at++] = x.about(memory, what);
            }
        }
        for (int a = 0; a < x.sum(0); a++) {
            for (int b = a + 1; b < x.sum(0); b++) {
                all[at++] = x.pair(a, b);
            }
        }
        for (int what = 0; what < 3; what++) {
            all[at++] = x.lies(what);
            all[at++] = x.leave(what);
        }
        all[at++] = x.count();
        all[at++] = x.obey();
        return all;
    }

    private static long call(InnNight x, int which, int a, int b, int c, boolean is) {
        switch (which) {
            case 0: return x.feed(a, b, c, a, b);
            case 1: return x.end(a) ? 1 : 0;
            case 2: return x.guest();
            case 3: return x.memory();
            case 4: return x.fault();
            case 5: return x.about(a, b);
            case 6: return x.strike(a, is) ? 1 : 0;
            case 7: return x.pair(a, b);
            case 8: return x.quarrel(a);
            case 9: return x.quarrels(a);
            case 10: return x.can() ? 1 : 0;
            case 11: return x.moments();
            case 12: return x.moment(a);
            case 13: return x.lay(a);
            case 14: return x.stays(a, is);
            case 15: return x.knot();
            case 16: return x.ring();
            case 17: return x.three(a);
            case 18: return x.small();
            case 19: return x.check(a);
            case 20: return x.count();
            case 21: return x.node(a, b);
            default: return callMore(x, which, a, b, c, is);
        }
    }

    private static long callMore(InnNight x, int which, int a, int b, int c, boolean is) {
        switch (which) {
            case 22: return x.between(a, b, c) ? 1 : 0;
            case 23: return x.opens();
            case 24: return x.choose(is);
            case 25: return x.ask();
            case 26: x.stay(a, b, c); return 0;
            case 27: return x.judge(a);
            case 28: return x.lies(a);
            case 29: return x.leave(a);
            case 30: return x.kind();
            case 31: return x.claw(a);
            case 32: return x.round() ? 1 : 0;
            case 33: return x.twice(a) ? 1 : 0;
            case 34: return x.room(a);
            case 35: return x.rooms();
            case 36: return x.obey();
            case 37: return x.span(a, is);
            case 38: return x.must(a, b);
            case LIST: return x.list(a);
            case 40: return x.listed(a);
            case IMAGE: x.image(); return 0;
            case BACK: return x.back() ? 1 : 0;
            default: return x.sum(a);
        }
    }

    /** Once the rows are made, calls make nothing: far less than an object of rows for all of 512 calls. */
    private static void room() {
        com.sun.management.ThreadMXBean threads =
                (com.sun.management.ThreadMXBean) ManagementFactory.getThreadMXBean();
        InnNight warm = Due.inn(8, "met 0 1;met 1 2;met 2 3;met 3 0;met 3 4;met 4 5;met 5 6;met 6 7;open 0 2");
        everyQuestion(warm);
        long start = threads.getCurrentThreadAllocatedBytes();
        everyQuestion(warm);
        long calls = threads.getCurrentThreadAllocatedBytes() - start;
        Due.due("bytes left by calls: " + calls, calls < 4096, true);
        start = threads.getCurrentThreadAllocatedBytes();
        warm = new InnNight();
        long made = threads.getCurrentThreadAllocatedBytes() - start;
        Due.due("bytes of a new object: " + made, made > 0 && made < 40000, true);
        warm.list(60);
        long first = threads.getCurrentThreadAllocatedBytes() - start - made;
        Due.due("bytes of the first list: " + first, first < 40000, true);
        start = threads.getCurrentThreadAllocatedBytes();
        for (int n = 0; n < 300; n++) {
            warm.feed(0x00010102, 0x02030304, 0x04050506, 0x06070708, 0x08090900);
            warm.list(60);
        }
        long lists = threads.getCurrentThreadAllocatedBytes() - start;
        Due.due("bytes of more lists: " + lists, lists < 4096, true);
    }

    private static void everyQuestion(InnNight x) {
        for (int which = 4; which < CALLS; which++) {
            boolean refuses = which == 13 || which == 14 || which == 21 || which == 22 || which == 34 || which == 35;
            if (!refuses && which != LIST) {
                call(x, which, 0, 1, 2, true);
                x.strike(1, false);
            }
        }
    }
}
