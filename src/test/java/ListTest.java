import java.util.Random;

/** Long lists: promises 41 and 42, small ones against the slow terms, long ones whose answers are known. */
public final class ListTest {

    public static void main(String[] args) {
        smallOnes();
        staysOfSixty();
        longRings();
        ringOfTwoHalves();
        treesOfSixty();
        staysByLot();
        walksByLot();
        Due.close();
    }

    private static void smallOnes() {
        Random random = new Random(41L);
        InnNight x = new InnNight();
        for (int n = 0; n < 2000; n++) {
            if (n % 200 == 0) {
                x = new InnNight();
            }
            int guests = 1 + random.nextInt(7);
            boolean[][] met = new boolean[guests][guests];
            int meetings = guests == 1 ? 0 : random.nextInt(2 * guests);
            int[] bytes = new int[2 * meetings];
            for (int k = 0; k < meetings; k++) {
                int a = random.nextInt(guests);
                int b = (a + 1 + random.nextInt(guests - 1)) % guests;
                bytes[2 * k] = a;
                bytes[2 * k + 1] = b;
                met[a][b] = true;
                met[b][a] = true;
            }
            int pairs = 0;
            for (int a = 0; a < guests; a++) {
                for (int b = a + 1; b < guests; b++) {
                    pairs += met[a][b] ? 1 : 0;
                }
            }
            boolean noRing = Oracle.ring(met) == 0;
            int greatest = 0;
            for (int moment : Oracle.moments(met)) {
                greatest = Math.max(greatest, Integer.bitCount(moment));
            }
            String name = "list " + n + " ";
            Due.due(name, Due.list(x, guests, bytes), pairs);
            Due.due(name + 0, x.listed(0), Oracle.can(met) ? 1 : 0);
            Due.due(name + 1, x.listed(1), noRing ? 1 : 0);
            Due.due(name + 2, x.listed(2), noRing ? greatest : -1);
            Due.due(name + 3, x.listed(3), pairs);
            Due.due(name + 4, x.listed(4), guests);
        }
    }

    private static void listIs(String name, InnNight x, int can, int noRing, int greatest) {
        Due.due(name + " can", x.listed(0), can);
        Due.due(name + " has no ring", x.listed(1), noRing);
        Due.due(name + " greatest", x.listed(2), greatest);
    }

    /** Sixty guests of one hour and the next two, their numbers mixed up: three are there each hour. */
    private static void staysOfSixty() {
        int[] bytes = new int[2 * (59 + 58)];
        int at = 0;
        for (int k = 0; k < 60; k++) {
            for (int step = 1; step <= 2 && k + step < 60; step++) {
                bytes[at++] = k * 7 % 60;
                bytes[at++] = (k + step) * 7 % 60;
            }
        }
        InnNight x = new InnNight();
        Due.due("stays of sixty", Due.list(x, 60, bytes), 117);
        listIs("stays of sixty", x, 1, 1, 3);
        // Twenty who have all met: too many meetings for one TAPE, so fourteen.
        int[] all = new int[14 * 13];
        at = 0;
        for (int a = 0; a < 14; a++) {
            for (int b = a + 1; b < 14; b++) {
                all[at++] = 46 + a;
                all[at++] = 46 + b;
            }
        }
        Due.due("fourteen who met", Due.list(x, 60, all), 91);
        listIs("fourteen who met", x, 1, 1, 14);
    }

    private static void longRings() {
        InnNight x = new InnNight();
        for (int length = 3; length <= 60; length++) {
            int[] bytes = new int[2 * length];
            for (int k = 0; k < length; k++) {
                bytes[2 * k] = k;
                bytes[2 * k + 1] = (k + 1) % length;
            }
            Due.due("ring of " + length, Due.list(x, 60, bytes), length);
            boolean isRing = length > 3;
            listIs("ring of " + length, x, isRing ? 0 : 1, isRing ? 0 : 1, isRing ? -1 : 3);
        }
    }

    /** A row of guests each of whom has met the next two, closed to a ring by one more. */
    private static void ringOfTwoHalves() {
        int[] bytes = new int[2 * (57 + 56 + 2)];
        int at = 0;
        for (int k = 0; k < 58; k++) {
            for (int step = 1; step <= 2 && k + step < 58; step++) {
                bytes[at++] = k;
                bytes[at++] = k + step;
            }
        }
        bytes[at++] = 59;
        bytes[at++] = 0;
        bytes[at++] = 57;
        bytes[at] = 59;
        InnNight x = new InnNight();
        Due.due("closed row", Due.list(x, 60, bytes), 115);
        listIs("closed row", x, 0, 0, -1);
    }

    private static void treesOfSixty() {
        InnNight x = new InnNight();
        int[] bytes = new int[2 * 59];
        for (int k = 1; k < 60; k++) {
            bytes[2 * k - 2] = k;
            bytes[2 * k - 1] = (k - 1) / 2;
        }
        Due.due("a tree of two branches", Due.list(x, 60, bytes), 59);
        listIs("a tree of two branches", x, 0, 1, 2);
        for (int k = 1; k < 60; k++) {
            bytes[2 * k - 1] = k < 30 ? k - 1 : k - 30;
        }
        Due.due("a comb of single teeth", Due.list(x, 60, bytes), 59);
        listIs("a comb of single teeth", x, 1, 1, 2);
    }

    private static int[] bytesOf(boolean[][] met, int guests) {
        int[] bytes = new int[guests * guests];
        int at = 0;
        for (int a = 0; a < guests; a++) {
            for (int b = a + 1; b < guests; b++) {
                if (met[a][b]) {
                    bytes[at++] = (a + b) % 2 == 0 ? a : b;
                    bytes[at++] = (a + b) % 2 == 0 ? b : a;
                }
            }
        }
        return java.util.Arrays.copyOf(bytes, at);
    }

    /** Stays by lot can always be laid, and the greatest moment is that hour at which most are there. */
    private static void staysByLot() {
        Random random = new Random(60L);
        for (int n = 0; n < 300; n++) {
            int guests = 1 + random.nextInt(60);
            int[] from = new int[guests];
            int[] till = new int[guests];
            int[] there = new int[200];
            int greatest = 0;
            for (int k = 0; k < guests; k++) {
                from[k] = random.nextInt(150);
                till[k] = from[k] + random.nextInt(1 + random.nextInt(20));
                for (int hour = from[k]; hour <= till[k]; hour++) {
                    there[hour]++;
                    greatest = Math.max(greatest, there[hour]);
                }
            }
            boolean[][] met = new boolean[guests][guests];
            for (int a = 0; a < guests; a++) {
                for (int b = 0; b < guests; b++) {
                    met[a][b] = a != b && from[a] <= till[b] && from[b] <= till[a];
                }
            }
            int[] bytes = bytesOf(met, guests);
            if (bytes.length <= 400) {
                InnNight x = new InnNight();
                Due.due("stays by lot " + n, Due.list(x, guests, bytes), bytes.length / 2);
                listIs("stays by lot " + n, x, 1, 1, greatest);
            }
        }
    }

    /** Walks about a tree, by lot: whoever were at one place have met, so that there is no ring. */
    private static void walksByLot() {
        Random random = new Random(61L);
        int laid = 0;
        int notLaid = 0;
        for (int n = 0; n < 400; n++) {
            int guests = 6 + random.nextInt(55);
            int places = 4 + random.nextInt(50);
            int[] above = new int[places];
            for (int place = 1; place < places; place++) {
                above[place] = Math.max(0, place - 1 - random.nextInt(1 + n % 4));
            }
            boolean[][] at = new boolean[guests][places];
            int[] there = new int[places];
            int greatest = 0;
            for (int k = 0; k < guests; k++) {
                int place = random.nextInt(places);
                at[k][place] = true;
                for (int step = random.nextInt(6); step > 0; step--) {
                    place = above[place];
                    at[k][place] = true;
                }
                for (int one = 0; one < places; one++) {
                    there[one] += at[k][one] ? 1 : 0;
                    greatest = Math.max(greatest, there[one]);
                }
            }
            boolean[][] met = new boolean[guests][guests];
            for (int a = 0; a < guests; a++) {
                for (int b = 0; b < guests; b++) {
                    for (int place = 0; place < places; place++) {
                        met[a][b] |= a != b && at[a][place] && at[b][place];
                    }
                }
            }
            int[] bytes = bytesOf(met, guests);
            if (bytes.length <= 400) {
                boolean can = !hasThree(met);
                laid += can ? 1 : 0;
                notLaid += can ? 0 : 1;
                InnNight x = new InnNight();
                Due.due("walks by lot " + n, Due.list(x, guests, bytes), bytes.length / 2);
                listIs("walks by lot " + n, x, can ? 1 : 0, 1, greatest);
            }
        }
        Due.due("walks that are stays, and others: " + laid + " and " + notLaid, laid > 20 && notLaid > 20, true);
    }

    private static boolean hasThree(boolean[][] met) {
        int guests = met.length;
        int[][] part = new int[guests][];
        for (int without = 0; without < guests; without++) {
            part[without] = partsWithout(met, without);
        }
        for (int a = 0; a < guests; a++) {
            for (int b = a + 1; b < guests; b++) {
                for (int c = b + 1; c < guests; c++) {
                    if (part[a][b] > 0 && part[a][b] == part[a][c] && part[b][a] > 0 && part[b][a] == part[b][c]
                            && part[c][a] > 0 && part[c][a] == part[c][b]) {
                        return true;
                    }
                }
            }
        }
        return false;
    }

    /** Guests whom ways join that have not one, nor any whom that has met, are given one number; these 0. */
    private static int[] partsWithout(boolean[][] met, int one) {
        int guests = met.length;
        int[] part = new int[guests];
        for (int k = 0; k < guests; k++) {
            part[k] = k == one || met[one][k] ? 0 : k + 1;
        }
        for (boolean again = true; again;) {
            again = false;
            for (int a = 0; a < guests; a++) {
                for (int b = 0; b < guests; b++) {
                    if (met[a][b] && part[a] > 0 && part[b] > part[a]) {
                        part[b] = part[a];
                        again = true;
                    }
                }
            }
        }
        return part;
    }
}
