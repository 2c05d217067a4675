import java.util.List;
import java.util.Random;

/** Every answer about many inns, chosen by a fixed seed, against the document's terms tried out slowly. */
public final class OracleTest {
    private static final String[] WORDS = {"met", "apart", "open", "ahead"};

    public static void main(String[] args) {
        everyGraph(0, 5);
        sample(20261118L, 900, 7);
        sample(45L, 120, 8);
        fromStays(9L, 1500, 9);
        manyOpen(8L, 150);
        comingsOfTwo(35L, 150);
        Due.close();
    }

    private static void everyGraph(int from, int to) {
        for (int guests = from; guests <= to; guests++) {
            int pairs = guests * (guests - 1) / 2;
            for (int graph = 0; graph < 1 << pairs; graph++) {
                InnNight x = Due.inn(guests);
                Oracle oracle = new Oracle(guests);
                int bit = 0;
                StringBuilder text = new StringBuilder();
                for (int a = 0; a < guests; a++) {
                    for (int b = a + 1; b < guests; b++) {
                        if ((graph >> bit++ & 1) == 1) {
                            text.append(text.length() == 0 ? "" : ";").append("met ").append(a).append(" ").append(b);
                            oracle.remember(0, a, b, -1, 50);
                        }
                    }
                }
                Due.tell(x, text.toString());
                compare("graph " + guests + "/" + graph + ": ", x, oracle);
            }
        }
    }

    private static void sample(long seed, int many, int most) {
        Random random = new Random(seed);
        for (int n = 0; n < many; n++) {
            int guests = 2 + random.nextInt(most - 1);
            InnNight x = Due.inn(guests);
            Oracle oracle = new Oracle(guests);
            int memories = random.nextInt(3 * guests) + (random.nextInt(4) == 0 ? 10 : 0);
            int metShare = 3 + random.nextInt(7);
            StringBuilder all = new StringBuilder();
            for (int m = 0; m < memories; m++) {
                String text = tellOne(random, guests, metShare, oracle);
                all.append(text).append(';');
                Due.tell(x, text);
            }
            for (int m = 0; m < memories; m++) {
                if (random.nextInt(8) == 0) {
                    x.strike(m, true);
                    oracle.memories.get(m)[5] = 0;
                }
            }
            compare("sample " + seed + "/" + n + " [" + all + "]: ", x, oracle);
        }
    }

    /** Meetings of stays drawn by lot, some told wrongly: most can be laid, and the others hardly cannot. */
    private static void fromStays(long seed, int many, int most) {
        Random random = new Random(seed);
        for (int n = 0; n < many; n++) {
            int guests = 5 + random.nextInt(most - 4);
            int length = 1 + random.nextInt(6);
            int[] from = new int[guests];
            int[] till = new int[guests];
            Oracle oracle = new Oracle(guests);
            StringBuilder text = new StringBuilder();
            for (int b = 0; b < guests; b++) {
                from[b] = random.nextInt(12);
                till[b] = from[b] + random.nextInt(length + 1);
                for (int a = 0; a < b; a++) {
                    boolean met = from[a] <= till[b] && from[b] <= till[a];
                    int word = met ? 0 : random.nextInt(9) == 0 ? from[a] < from[b] ? 3 : 2 : 1;
                    if (word != 1 && random.nextInt(30) != 0) {
                        text.append(text.length() == 0 ? "" : ";").append(WORDS[word]).append(a).append(' ').append(b);
                        oracle.remember(word, a, b, -1, 50);
                    }
                }
            }
            if (Oracle.layings(Oracle.moments(oracle.met()), 3000).size() < 3000) {
                InnNight x = Due.inn(guests);
                Due.due("memory()", Due.tell(x, text.toString()), oracle.memories.size());
                compare("stays " + seed + "/" + n + " [" + text + "]: ", x, oracle);
            }
        }
    }

    /** So many open pairs that some stand behind the first eight. */
    private static void manyOpen(long seed, int many) {
        Random random = new Random(seed);
        for (int n = 0; n < many; n++) {
            int guests = 5 + random.nextInt(2);
            Oracle oracle = new Oracle(guests);
            StringBuilder text = new StringBuilder();
            for (int a = 0; a < guests; a++) {
                for (int b = a + 1; b < guests; b++) {
                    int word = random.nextInt(3) == 0 ? 0 : random.nextInt(8) == 0 ? 3 : 2;
                    text.append(text.length() == 0 ? "" : ";").append(WORDS[word]).append(a).append(' ').append(b);
                    oracle.remember(word, a, b, -1, 50);
                }
            }
            InnNight x = Due.inn(guests);
            Due.due("memory()", Due.tell(x, text.toString()), oracle.memories.size());
            compare("many open " + seed + "/" + n + " [" + text + "]: ", x, oracle);
        }
    }

    /** Meetings of stays by lot, of which one guest had two: who can have come twice so. */
    private static void comingsOfTwo(long seed, int many) {
        Random random = new Random(seed);
        int neither = 0;
        for (int n = 0; neither < many && n < 100 * many; n++) {
            int guests = 6 + random.nextInt(3);
            int[] from = new int[guests + 1];
            int[] till = new int[guests + 1];
            for (int k = 0; k <= guests; k++) {
                from[k] = random.nextInt(16);
                till[k] = from[k] + random.nextInt(1 + random.nextInt(8));
            }
            Oracle oracle = new Oracle(guests);
            StringBuilder text = new StringBuilder();
            for (int a = 0; a < guests; a++) {
                for (int b = a + 1; b < guests; b++) {
                    boolean met = from[a] <= till[b] && from[b] <= till[a];
                    // Guest 0 came a second time.
                    met |= a == 0 && from[guests] <= till[b] && from[b] <= till[guests];
                    if (met != (random.nextInt(40) == 0)) {
                        text.append(text.length() == 0 ? "" : ";").append("met").append(a).append(' ').append(b);
                        oracle.remember(0, a, b, -1, 50);
                    }
                }
            }
            boolean[][] met = oracle.met();
            if (!Oracle.can(met)) {
                neither++;
                InnNight x = Due.inn(guests);
                Due.tell(x, text.toString());
                compareKinds("two comings " + seed + "/" + n + " [" + text + "]: ", x, met);
            }
        }
        Due.due("inns that cannot be laid", neither, many);
    }

    private static String tellOne(Random random, int guests, int metShare, Oracle oracle) {
        int word = random.nextInt(10) < metShare ? 0 : 1 + random.nextInt(3);
        int a = random.nextInt(guests);
        int b = (a + 1 + random.nextInt(guests - 1)) % guests;
        int by = random.nextInt(3) == 0 ? random.nextInt(guests) : -1;
        int sure = random.nextInt(2) == 0 ? 50 : 40 + random.nextInt(30);
        oracle.remember(word, a, b, by, sure);
        return WORDS[word] + " " + a + " " + b + (by < 0 ? "" : " by " + by) + (sure == 50 ? "" : " sure " + sure);
    }

    private static void compare(String name, InnNight x, Oracle oracle) {
        boolean[][] met = oracle.met();
        int[] moments = Oracle.moments(met);
        List<int[]> layings = Oracle.layings(moments, Integer.MAX_VALUE);
        comparePairs(name, x, oracle);
        compareLaying(name, x, oracle, moments, layings);
        compareKnots(name, x, met);
        compareChart(name, x, met, moments, layings);
        compareChoices(name, x, oracle);
        compareKinds(name, x, met);
        compareOrders(name, x, oracle, moments, layings);
    }

    private static void comparePairs(String name, InnNight x, Oracle oracle) {
        int[] kinds = new int[3];
        for (int a = 0; a < oracle.guests; a++) {
            for (int b = 0; b < oracle.guests; b++) {
                Due.due(name + "pair " + a + " " + b, x.pair(a, b), oracle.pair(a, b));
                if (a < b) {
                    kinds[oracle.pair(a, b)]++;
                }
            }
        }
        Due.due(name + "sum(4)", x.sum(4), kinds[0]);
        Due.due(name + "sum(5)", x.sum(5), kinds[1]);
        Due.due(name + "opens()", x.opens(), kinds[2]);
        Due.due(name + "sum(2)", x.sum(2), oracle.sizeOfForce());
        List<int[]> quarrels = oracle.quarrels();
        for (int n = 0; n <= quarrels.size(); n++) {
            int want = n < quarrels.size() ? 40 * quarrels.get(n)[0] + quarrels.get(n)[1] : -1;
            Due.due(name + "quarrel " + n, x.quarrel(n), want);
        }
        Due.due(name + "sum(3)", x.sum(3), quarrels.size());
        for (int g = 0; g < oracle.guests; g++) {
            int told = 0;
            for (int[] q : quarrels) {
                told += oracle.memories.get(q[0])[3] == g || oracle.memories.get(q[1])[3] == g ? 1 : 0;
            }
            Due.due(name + "quarrels " + g, x.quarrels(g), told);
        }
        for (int m = 0; m < oracle.memories.size(); m++) {
            int[] told = oracle.memories.get(m);
            for (int what = 0; what < 6; what++) {
                Due.due(name + "about " + m + " " + what, x.about(m, what), told[what]);
            }
            Due.due(name + "about " + m + " 6", x.about(m, 6), oracle.ruler(told[1], told[2]) == m ? 1 : 0);
        }
    }

    private static void compareLaying(String name, InnNight x, Oracle oracle, int[] moments, List<int[]> layings) {
        Due.due(name + "can()", x.can(), !layings.isEmpty());
        Due.due(name + "moments()", x.moments(), moments.length);
        for (int k = 0; k < moments.length; k++) {
            Due.due(name + "moment " + k, x.moment(k), moments[k]);
        }
        Due.due(name + "count()", x.count(), layings.size());
        if (layings.isEmpty()) {
            Due.refuses(name + "lay(0)", IllegalStateException.class, () -> x.lay(0));
            Due.refuses(name + "rooms()", IllegalStateException.class, () -> x.rooms());
            return;
        }
        int[] least = layings.get(0);
        for (int place = 0; place < least.length; place++) {
            Due.due(name + "lay " + place, x.lay(place), least[place]);
        }
        Due.due(name + "lay behind", x.lay(least.length), -1);
        int[] rooms = Oracle.rooms(moments, least, oracle.guests);
        int needed = 0;
        for (int g = 0; g < oracle.guests; g++) {
            Due.due(name + "stays first " + g, x.stays(g, false), Oracle.first(moments, least, g));
            Due.due(name + "stays last " + g, x.stays(g, true), Oracle.last(moments, least, g));
            Due.due(name + "room " + g, x.room(g), rooms[g]);
            needed = Math.max(needed, rooms[g] + 1);
        }
        Due.due(name + "rooms()", x.rooms(), needed);
    }

    private static void compareKnots(String name, InnNight x, boolean[][] met) {
        Due.due(name + "knot()", x.knot(), Oracle.knot(met));
        Due.due(name + "ring()", x.ring(), Oracle.ring(met));
        int[] three = Oracle.three(met);
        for (int k = -1; k < 4; k++) {
            Due.due(name + "three " + k, x.three(k), three == null || k < 0 || k > 2 ? -1 : three[k]);
        }
        Due.due(name + "small()", x.small(), Oracle.small(met));
        for (int set = -1; set < 1 << met.length; set += met.length > 5 ? 7 : 1) {
            Due.due(name + "check " + set, x.check(set), Oracle.check(met, set));
        }
    }

    private static void compareChart(String name, InnNight x, boolean[][] met, int[] moments, List<int[]> layings) {
        List<int[]> chart = Oracle.chart(moments, layings);
        Due.due(name + "sum(6)", x.sum(6), chart.size());
        if (layings.isEmpty()) {
            Due.refuses(name + "node(0, 9)", IllegalStateException.class, () -> x.node(0, 9));
            return;
        }
        for (int k = -1; k <= chart.size(); k++) {
            for (int what = 0; what < 4; what++) {
                int want = k < 0 || k == chart.size() ? -1 : chart.get(k)[what];
                Due.due(name + "node " + k + " " + what, x.node(k, what), want);
            }
        }
        for (int a = 0; a < met.length; a++) {
            for (int b = 0; b < met.length; b++) {
                for (int c = 0; c < met.length; c++) {
                    Due.due(name + "between " + a + " " + b + " " + c, x.between(a, b, c),
                            Oracle.between(met, moments, layings, a, b, c));
                }
            }
        }
    }

    private static void compareChoices(String name, InnNight x, Oracle oracle) {
        Due.due(name + "choose(false)", x.choose(false), oracle.choose(false));
        Due.due(name + "choose(true)", x.choose(true), oracle.choose(true));
        Due.due(name + "ask()", x.ask(), oracle.ask());
        int[] lies = oracle.lies();
        int[] leave = oracle.leave();
        for (int what = 0; what < 3; what++) {
            Due.due(name + "lies " + what, x.lies(what), lies[what]);
            Due.due(name + "leave " + what, x.leave(what), leave[what]);
        }
    }

    private static void compareKinds(String name, InnNight x, boolean[][] met) {
        int[] claw = Oracle.claw(met);
        for (int k = -1; k < 5; k++) {
            Due.due(name + "claw " + k, x.claw(k), claw == null || k < 0 || k > 3 ? -1 : claw[k]);
        }
        Due.due(name + "round()", x.round(), Oracle.round(met));
        for (int g = 0; g < met.length; g++) {
            Due.due(name + "twice " + g, x.twice(g), Oracle.twice(met, g));
        }
        Due.due(name + "kind()", x.kind(), Oracle.kind(met));
    }

    private static void compareOrders(String name, InnNight x, Oracle oracle, int[] moments, List<int[]> layings) {
        List<int[]> obeying = oracle.obeying(moments, layings);
        Due.due(name + "obey()", x.obey(), obeying.size());
        for (int a = 0; a < oracle.guests; a++) {
            Due.due(name + "span least " + a, x.span(a, false), Oracle.span(moments, obeying, a, false));
            Due.due(name + "span greatest " + a, x.span(a, true), Oracle.span(moments, obeying, a, true));
            for (int b = 0; b < oracle.guests; b++) {
                Due.due(name + "must " + a + " " + b, x.must(a, b), oracle.must(moments, obeying, a, b));
            }
        }
    }
}
