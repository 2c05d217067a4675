import java.util.Random;
import java.util.function.LongSupplier;

/** An object with a long past answers just as a new one that was told the same: nothing old shows through. */
public final class PastTest {
    private static final String[] WORDS = {"met", "apart", "open", "ahead"};

    public static void main(String[] args) {
        for (long seed = 0; seed < 60; seed++) {
            run(seed);
        }
        Due.close();
    }

    private static void run(long seed) {
        Random random = new Random(seed);
        InnNight x = new InnNight();
        for (int step = 0; step < 40; step++) {
            change(x, random);
            if (random.nextInt(3) == 0) {
                String got = answers(x);
                String want = answers(copy(x));
                Due.due("seed " + seed + ", step " + step + "\n" + got + "\n" + want + "\n", got.equals(want), true);
            }
        }
    }

    private static void change(InnNight x, Random random) {
        int guests = x.sum(0);
        int memories = x.sum(1);
        switch (random.nextInt(8)) {
            case 0: case 1:
                if (guests < 9) {
                    x.guest();
                }
                return;
            case 2: case 3: case 4:
                if (guests > 1 && memories < 34) {
                    Due.tell(x, text(random, guests));
                }
                return;
            case 5:
                if (memories > 0) {
                    x.strike(random.nextInt(memories), random.nextBoolean());
                }
                return;
            case 6:
                if (random.nextInt(3) == 0) {
                    x.image();
                }
                return;
            default:
                x.back();
        }
    }

    private static String text(Random random, int guests) {
        StringBuilder text = new StringBuilder();
        for (int k = random.nextInt(6); k >= 0; k--) {
            int a = random.nextInt(guests);
            int b = (a + 1 + random.nextInt(guests - 1)) % guests;
            line(text, random.nextInt(3) == 0 ? random.nextInt(4) : 0, a, b,
                    random.nextInt(guests + 1) - 1, 40 + random.nextInt(20));
        }
        return text.toString();
    }

    private static void line(StringBuilder text, int word, int a, int b, int by, int sure) {
        text.append(text.length() == 0 ? "" : ";").append(WORDS[word]).append(a).append(' ').append(b)
                .append(by < 0 ? "" : "by" + by).append("sure").append(sure);
    }

    /** A new object that is told the GUESTS, MEMORIES and which are struck, and nothing else. */
    private static InnNight copy(InnNight x) {
        InnNight fresh = Due.inn(x.sum(0));
        for (int memory = 0; memory < x.sum(1); memory++) {
            StringBuilder text = new StringBuilder();
            line(text, x.about(memory, 0), x.about(memory, 1), x.about(memory, 2), x.about(memory, 3),
                    x.about(memory, 4));
            Due.tell(fresh, text.toString());
            fresh.strike(memory, x.about(memory, 5) == 0);
        }
        return fresh;
    }

    private static void put(StringBuilder all, LongSupplier call) {
        try {
            all.append(call.getAsLong());
        } catch (RuntimeException thrown) {
            all.append(thrown.getClass().getSimpleName().charAt(0));
        }
        all.append(' ');
    }

    private static String answers(InnNight x) {
        StringBuilder all = new StringBuilder();
        int guests = x.sum(0);
        for (int what = 0; what < 7; what++) {
            int one = what;
            put(all, () -> x.sum(one));
        }
        // Orders ahead of layings, layings ahead of charts: each must be worked out again by itself.
        all.append("; orders ");
        for (int a = 0; a < guests; a++) {
            for (int b = 0; b < guests; b++) {
                int one = a;
                int other = b;
                put(all, () -> x.must(one, other));
                put(all, () -> x.pair(one, other));
                for (int c = 0; c < guests; c++) {
                    int third = c;
                    put(all, () -> x.between(one, other, third) ? 1 : 0);
                }
            }
            ofGuest(all, x, a);
        }
        ofNumbers(all, x);
        ofAll(all, x);
        return all.toString();
    }

    private static void ofGuest(StringBuilder all, InnNight x, int guest) {
        put(all, () -> x.span(guest, false));
        put(all, () -> x.span(guest, true));
        put(all, () -> x.stays(guest, false));
        put(all, () -> x.stays(guest, true));
        put(all, () -> x.room(guest));
        put(all, () -> x.twice(guest) ? 1 : 0);
        put(all, () -> x.quarrels(guest));
    }

    private static void ofNumbers(StringBuilder all, InnNight x) {
        all.append("; numbers ");
        for (int k = 0; k < 28; k++) {
            int number = k;
            put(all, () -> x.moment(number));
            put(all, () -> x.lay(number));
            put(all, () -> x.quarrel(number));
            put(all, () -> x.check(number * 19));
            for (int what = 0; what < 4; what++) {
                int one = what;
                put(all, () -> x.node(number, one));
            }
        }
        for (int memory = 0; memory < x.sum(1); memory++) {
            int number = memory;
            put(all, () -> x.about(number, 6));
        }
        for (int k = 0; k < 4; k++) {
            int number = k;
            put(all, () -> x.three(number));
            put(all, () -> x.claw(number));
            put(all, () -> x.lies(number));
            put(all, () -> x.leave(number));
        }
    }

    private static void ofAll(StringBuilder all, InnNight x) {
        all.append("; all ");
        put(all, () -> x.can() ? 1 : 0);
        put(all, () -> x.moments());
        put(all, () -> x.knot());
        put(all, () -> x.ring());
        put(all, () -> x.small());
        put(all, () -> x.count());
        put(all, () -> x.opens());
        put(all, () -> x.choose(false));
        put(all, () -> x.choose(true));
        put(all, () -> x.ask());
        put(all, () -> x.kind());
        put(all, () -> x.round() ? 1 : 0);
        put(all, () -> x.rooms());
        put(all, () -> x.obey());
    }
}
