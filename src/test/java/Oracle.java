import java.util.ArrayList;
import java.util.List;

/** The document's terms by their plainest words, slowly: every order, every set, every way is tried. */
final class Oracle {
    final int guests;
    final List<int[]> memories = new ArrayList<>();

    Oracle(int guests) {
        this.guests = guests;
    }

    // A memory: word, first, second, by, sure, in force.
    void remember(int word, int first, int second, int by, int sure) {
        memories.add(new int[] {word, first, second, by, sure, 1});
    }

    int ruler(int a, int b) {
        int best = -1;
        for (int m = 0; m < memories.size(); m++) {
            int[] one = memories.get(m);
            boolean about = one[1] == a && one[2] == b || one[1] == b && one[2] == a;
            if (about && one[5] == 1 && (best < 0 || one[4] >= memories.get(best)[4])) {
                best = m;
            }
        }
        return best;
    }

    int pair(int a, int b) {
        if (a == b) {
            return -1;
        }
        int m = ruler(a, b);
        if (m < 0) {
            return 1;
        }
        int word = memories.get(m)[0];
        return word == 3 ? 1 : word;
    }

    boolean[][] met() {
        boolean[][] met = new boolean[guests][guests];
        for (int a = 0; a < guests; a++) {
            for (int b = 0; b < guests; b++) {
                met[a][b] = pair(a, b) == 0;
            }
        }
        return met;
    }

    List<int[]> quarrels() {
        List<int[]> all = new ArrayList<>();
        for (int i = 0; i < memories.size(); i++) {
            for (int j = i + 1; j < memories.size(); j++) {
                int[] one = memories.get(i);
                int[] other = memories.get(j);
                boolean same = (1 << one[1] | 1 << one[2]) == (1 << other[1] | 1 << other[2]);
                boolean against = one[0] == 0 && other[0] % 2 == 1 || other[0] == 0 && one[0] % 2 == 1;
                if (same && against && one[5] == 1 && other[5] == 1) {
                    all.add(new int[] {i, j});
                }
            }
        }
        return all;
    }

    int sizeOfForce() {
        int n = 0;
        for (int[] m : memories) {
            n += m[5];
        }
        return n;
    }

    // ---- graphs

    static boolean clique(boolean[][] met, int set) {
        for (int a = 0; a < met.length; a++) {
            for (int b = a + 1; b < met.length; b++) {
                if (has(set, a) && has(set, b) && !met[a][b]) {
                    return false;
                }
            }
        }
        return true;
    }

    static int[] moments(boolean[][] met) {
        List<Integer> found = new ArrayList<>();
        for (int set = 1; set < 1 << met.length; set++) {
            boolean is = clique(met, set);
            for (int v = 0; is && v < met.length; v++) {
                is = has(set, v) || !clique(met, set | 1 << v);
            }
            if (is) {
                found.add(set);
            }
        }
        return found.stream().mapToInt(k -> k).toArray();
    }

    static boolean has(int set, int k) {
        return (set >> k & 1) == 1;
    }

    /** All layings, in the order of their numbers place by place; at most so many. */
    static List<int[]> layings(int[] moments, int most) {
        List<int[]> all = new ArrayList<>();
        goOn(moments, new int[moments.length], 0, 0, 0, all, most);
        return all;
    }

    // gone: guests who were there and are no longer.
    private static void goOn(int[] moments, int[] order, int place, int gone, int used, List<int[]> all, int most) {
        if (all.size() >= most) {
            return;
        }
        if (place == moments.length) {
            all.add(order.clone());
            return;
        }
        int here = place == 0 ? 0 : moments[order[place - 1]];
        for (int k = 0; k < moments.length; k++) {
            if (!has(used, k) && (moments[k] & gone) == 0) {
                order[place] = k;
                goOn(moments, order, place + 1, gone | here & ~moments[k], used | 1 << k, all, most);
            }
        }
    }

    static boolean can(boolean[][] met) {
        return !layings(moments(met), 1).isEmpty();
    }

    static boolean[][] only(boolean[][] met, int set) {
        int n = Integer.bitCount(set);
        int[] who = new int[n];
        int at = 0;
        for (int v = 0; v < met.length; v++) {
            if (has(set, v)) {
                who[at++] = v;
            }
        }
        boolean[][] part = new boolean[n][n];
        for (int a = 0; a < n; a++) {
            for (int b = 0; b < n; b++) {
                part[a][b] = met[who[a]][who[b]];
            }
        }
        return part;
    }

    static boolean isRing(boolean[][] met, int set) {
        if (Integer.bitCount(set) < 4) {
            return false;
        }
        int start = Integer.numberOfTrailingZeros(set);
        return ringOn(met, set, start, new int[16], 0, start, 1 << start);
    }

    private static boolean ringOn(boolean[][] met, int set, int start, int[] turn, int length, int last, int used) {
        turn[length] = last;
        if (used == set) {
            int n = length + 1;
            for (int i = 0; i < n; i++) {
                for (int j = i + 1; j < n; j++) {
                    boolean next = j == i + 1 || i == 0 && j == n - 1;
                    if (met[turn[i]][turn[j]] != next) {
                        return false;
                    }
                }
            }
            return true;
        }
        for (int v = 0; v < met.length; v++) {
            if (has(set, v) && !has(used, v) && met[last][v]
                    && ringOn(met, set, start, turn, length + 1, v, used | 1 << v)) {
                return true;
            }
        }
        return false;
    }

    static int ring(boolean[][] met) {
        for (int many = 4; many <= met.length; many++) {
            for (int set = 0; set < 1 << met.length; set++) {
                if (Integer.bitCount(set) == many && isRing(met, set)) {
                    return set;
                }
            }
        }
        return 0;
    }

    static boolean leads(boolean[][] met, int from, int to, int third) {
        if (from == third || to == third || met[from][third] || met[to][third]) {
            return false;
        }
        boolean[] seen = new boolean[met.length];
        seen[from] = true;
        for (int round = 0; round < met.length; round++) {
            for (int v = 0; v < met.length; v++) {
                for (int w = 0; w < met.length; w++) {
                    if (seen[v] && met[v][w] && w != third && !met[w][third]) {
                        seen[w] = true;
                    }
                }
            }
        }
        return seen[to];
    }

    static int[] three(boolean[][] met) {
        for (int a = 0; a < met.length; a++) {
            for (int b = a + 1; b < met.length; b++) {
                for (int c = b + 1; c < met.length; c++) {
                    if (!met[a][b] && !met[a][c] && !met[b][c] && leads(met, a, b, c) && leads(met, a, c, b)
                            && leads(met, b, c, a)) {
                        return new int[] {a, b, c};
                    }
                }
            }
        }
        return null;
    }

    static int knot(boolean[][] met) {
        return can(met) ? 0 : ring(met) != 0 ? 1 : 2;
    }

    static int small(boolean[][] met) {
        for (int many = 1; many <= met.length; many++) {
            for (int set = 0; set < 1 << met.length; set++) {
                if (Integer.bitCount(set) == many && !can(only(met, set))) {
                    return set;
                }
            }
        }
        return 0;
    }

    static int check(boolean[][] met, int told) {
        int set = told & (1 << met.length) - 1;
        if (can(only(met, set))) {
            return 0;
        }
        if (isRing(met, set)) {
            return 1;
        }
        for (int v = 0; v < met.length; v++) {
            if (has(set, v) && !can(only(met, set & ~(1 << v)))) {
                return 3;
            }
        }
        return 2;
    }

    // ---- the chart

    static boolean sideBySide(int[] laying, int set) {
        int changes = 0;
        boolean in = false;
        for (int k : laying) {
            if (has(set, k) != in) {
                in = !in;
                changes++;
            }
        }
        return changes <= 2 && (changes < 2 || !in);
    }

    /** The nodes as rows: kind, moments, above, parts. */
    static List<int[]> chart(int[] moments, List<int[]> layings) {
        List<int[]> nodes = new ArrayList<>();
        if (moments.length == 0 || layings.isEmpty()) {
            return nodes;
        }
        int full = (1 << moments.length) - 1;
        List<Integer> common = new ArrayList<>();
        for (int set = 1; set <= full; set++) {
            boolean is = true;
            for (int[] laying : layings) {
                if (!sideBySide(laying, set)) {
                    is = false;
                    break;
                }
            }
            if (is) {
                common.add(set);
            }
        }
        List<Integer> strong = new ArrayList<>();
        for (int set : common) {
            boolean is = true;
            for (int other : common) {
                is &= (set & other) == 0 || (set & ~other) == 0 || (other & ~set) == 0;
            }
            if (is) {
                strong.add(set);
            }
        }
        addNode(nodes, full, -1, common, strong, layings.get(layings.size() - 1));
        return nodes;
    }

    private static void addNode(List<int[]> nodes, int set, int above, List<Integer> common, List<Integer> strong,
            int[] laying) {
        List<Integer> parts = new ArrayList<>();
        for (int one : strong) {
            if (one != set && (one & ~set) == 0) {
                boolean greatest = true;
                for (int other : strong) {
                    greatest &= other == set || other == one || (other & ~set) != 0 || (one & ~other) != 0;
                }
                if (greatest) {
                    parts.add(one);
                }
            }
        }
        boolean turns = false;
        for (int choice = 0; parts.size() >= 3 && choice < 1 << parts.size(); choice++) {
            int many = Integer.bitCount(choice);
            int together = 0;
            for (int k = 0; k < parts.size(); k++) {
                together |= has(choice, k) ? parts.get(k) : 0;
            }
            turns |= many >= 2 && many < parts.size() && common.contains(together);
        }
        if (turns) {
            parts.sort((p, q) -> Integer.compare(placeOf(laying, p), placeOf(laying, q)));
            int last = parts.get(parts.size() - 1);
            if (Integer.numberOfTrailingZeros(last) < Integer.numberOfTrailingZeros(parts.get(0))) {
                java.util.Collections.reverse(parts);
            }
        } else {
            parts.sort((p, q) -> Integer.compare(Integer.numberOfTrailingZeros(p), Integer.numberOfTrailingZeros(q)));
        }
        int me = nodes.size();
        int kind = Integer.bitCount(set) == 1 ? 0 : turns ? 2 : 1;
        nodes.add(new int[] {kind, set, above, parts.size()});
        for (int part : parts) {
            addNode(nodes, part, me, common, strong, laying);
        }
    }

    private static int placeOf(int[] laying, int set) {
        for (int place = 0; place < laying.length; place++) {
            if (has(set, laying[place])) {
                return place;
            }
        }
        return -1;
    }

    // ---- places in a laying

    static int first(int[] moments, int[] laying, int guest) {
        for (int place = 0; place < laying.length; place++) {
            if (has(moments[laying[place]], guest)) {
                return place;
            }
        }
        return -1;
    }

    static int last(int[] moments, int[] laying, int guest) {
        int last = -1;
        for (int place = 0; place < laying.length; place++) {
            if (has(moments[laying[place]], guest)) {
                last = place;
            }
        }
        return last;
    }

    static boolean isAhead(int[] moments, int[] laying, int a, int b) {
        return last(moments, laying, a) < first(moments, laying, b);
    }

    static boolean between(boolean[][] met, int[] moments, List<int[]> layings, int a, int b, int c) {
        if (a == b || b == c || a == c || met[a][b] || met[b][c] || met[a][c]) {
            return false;
        }
        for (int[] laying : layings) {
            boolean up = isAhead(moments, laying, a, b) && isAhead(moments, laying, b, c);
            boolean down = isAhead(moments, laying, c, b) && isAhead(moments, laying, b, a);
            if (!up && !down) {
                return false;
            }
        }
        return true;
    }

    List<int[]> obeying(int[] moments, List<int[]> layings) {
        List<int[]> those = new ArrayList<>();
        for (int[] laying : layings) {
            boolean obeys = true;
            for (int a = 0; a < guests; a++) {
                for (int b = a + 1; b < guests; b++) {
                    int m = ruler(a, b);
                    if (m >= 0 && memories.get(m)[0] == 3) {
                        obeys &= isAhead(moments, laying, memories.get(m)[1], memories.get(m)[2]);
                    }
                }
            }
            if (obeys) {
                those.add(laying);
            }
        }
        return those;
    }

    int must(int[] moments, List<int[]> obeying, int a, int b) {
        if (a == b || pair(a, b) == 0 || obeying.isEmpty()) {
            return -1;
        }
        int ahead = 0;
        for (int[] laying : obeying) {
            ahead += isAhead(moments, laying, a, b) ? 1 : 0;
        }
        return ahead == obeying.size() ? 1 : ahead == 0 ? 0 : 2;
    }

    static int span(int[] moments, List<int[]> obeying, int guest, boolean last) {
        int found = -1;
        for (int[] laying : obeying) {
            int place = first(moments, laying, guest);
            found = found < 0 || last && place > found || !last && place < found ? place : found;
        }
        return found;
    }

    static int[] rooms(int[] moments, int[] laying, int guests) {
        int[] room = new int[guests];
        List<Integer> coming = new ArrayList<>();
        for (int guest = 0; guest < guests; guest++) {
            coming.add(guest);
        }
        coming.sort((p, q) -> first(moments, laying, p) != first(moments, laying, q)
                ? Integer.compare(first(moments, laying, p), first(moments, laying, q)) : Integer.compare(p, q));
        for (int k = 0; k < guests; k++) {
            int guest = coming.get(k);
            int free = 0;
            boolean again = true;
            while (again) {
                again = false;
                for (int earlier = 0; earlier < k; earlier++) {
                    int other = coming.get(earlier);
                    if (room[other] == free
                            && last(moments, laying, other) + 1 > first(moments, laying, guest)) {
                        free++;
                        again = true;
                        break;
                    }
                }
            }
            room[guest] = free;
        }
        return room;
    }

    // ---- choices

    List<int[]> opens() {
        List<int[]> all = new ArrayList<>();
        for (int a = 0; a < guests; a++) {
            for (int b = a + 1; b < guests; b++) {
                if (pair(a, b) == 2) {
                    all.add(new int[] {a, b});
                }
            }
        }
        return all;
    }

    int choose(boolean most) {
        List<int[]> opens = opens();
        int n = Math.min(8, opens.size());
        int best = -1;
        for (int set = 0; set < 1 << n; set++) {
            boolean[][] met = met();
            for (int k = 0; k < n; k++) {
                int[] p = opens.get(k);
                met[p[0]][p[1]] = has(set, k);
                met[p[1]][p[0]] = has(set, k);
            }
            int size = Integer.bitCount(set);
            int held = best < 0 ? 0 : Integer.bitCount(best);
            if ((best < 0 || (most ? size > held : size < held)) && can(met)) {
                best = set;
            }
        }
        return best;
    }

    int ask() {
        List<int[]> opens = opens();
        int best = -1;
        int fewest = 0;
        for (int k = 0; k < Math.min(8, opens.size()); k++) {
            boolean[][] met = met();
            int apart = layings(moments(met), Integer.MAX_VALUE).size();
            met[opens.get(k)[0]][opens.get(k)[1]] = true;
            met[opens.get(k)[1]][opens.get(k)[0]] = true;
            int together = layings(moments(met), Integer.MAX_VALUE).size();
            int worse = Math.max(apart, together);
            if (best < 0 || worse < fewest) {
                best = k;
                fewest = worse;
            }
        }
        return best;
    }

    int[] lies() {
        List<int[]> first = new ArrayList<>();
        for (int[] m : memories) {
            if (m[5] == 1 && first.size() < 10) {
                first.add(m);
            }
        }
        int[] answer = {-1, -1, -1};
        for (int set = 0; set < 1 << first.size(); set++) {
            int size = Integer.bitCount(set);
            if (answer[0] >= 0 && size > answer[0]) {
                continue;
            }
            for (int k = 0; k < first.size(); k++) {
                first.get(k)[5] = has(set, k) ? 0 : 1;
            }
            if (can(met())) {
                if (answer[0] < 0 || size < answer[0]) {
                    answer = new int[] {size, set, 0};
                }
                answer[2]++;
            }
        }
        for (int[] m : first) {
            m[5] = 1;
        }
        return answer;
    }

    int[] leave() {
        boolean[][] met = met();
        int[] answer = {-1, -1, -1};
        for (int set = 0; set < 1 << guests; set++) {
            int size = Integer.bitCount(set);
            if ((answer[0] < 0 || size <= answer[0]) && can(only(met, ~set & (1 << guests) - 1))) {
                if (answer[0] < 0 || size < answer[0]) {
                    answer = new int[] {size, set, 0};
                }
                answer[2]++;
            }
        }
        return answer;
    }

    // ---- kinds

    static int[] claw(boolean[][] met) {
        for (int v = 0; v < met.length; v++) {
            for (int a = 0; a < met.length; a++) {
                for (int b = a + 1; b < met.length; b++) {
                    for (int c = b + 1; c < met.length; c++) {
                        if (met[v][a] && met[v][b] && met[v][c] && !met[a][b] && !met[a][c] && !met[b][c]) {
                            return new int[] {v, a, b, c};
                        }
                    }
                }
            }
        }
        return null;
    }

    static boolean round(boolean[][] met) {
        int[] moments = moments(met);
        return moments.length == 0
                || moments.length <= 9 && ringOf(moments, met.length, new int[moments.length], 1, 1);
    }

    // Place 0 has moment 0: a ring may be told from any of its places on.
    private static boolean ringOf(int[] moments, int guests, int[] order, int place, int used) {
        if (place == moments.length) {
            for (int g = 0; g < guests; g++) {
                if (changesOf(moments, order, place, g, true) > 2) {
                    return false;
                }
            }
            return true;
        }
        for (int k = 1; k < moments.length; k++) {
            if (!has(used, k)) {
                order[place] = k;
                boolean may = true;
                for (int g = 0; g < guests; g++) {
                    may &= changesOf(moments, order, place + 1, g, false) <= 2;
                }
                if (may && ringOf(moments, guests, order, place + 1, used | 1 << k)) {
                    return true;
                }
            }
        }
        return false;
    }

    private static int changesOf(int[] moments, int[] order, int length, int guest, boolean closed) {
        int changes = 0;
        for (int place = 0; place < length; place++) {
            int next = place + 1 < length ? place + 1 : 0;
            if ((closed || next > place) && has(moments[order[place]], guest) != has(moments[order[next]], guest)) {
                changes++;
            }
        }
        return changes;
    }

    static boolean twice(boolean[][] met, int guest) {
        int n = met.length;
        int ways = 1;
        List<Integer> known = new ArrayList<>();
        for (int v = 0; v < n; v++) {
            if (met[guest][v]) {
                known.add(v);
                ways *= 3;
            }
        }
        for (int way = 0; way < ways; way++) {
            boolean[][] two = new boolean[n + 1][n + 1];
            for (int a = 0; a < n; a++) {
                for (int b = 0; b < n; b++) {
                    two[a][b] = a != guest && b != guest && met[a][b];
                }
            }
            int rest = way;
            for (int v : known) {
                boolean one = rest % 3 != 1;
                boolean other = rest % 3 != 0;
                two[guest][v] = one;
                two[v][guest] = one;
                two[n][v] = other;
                two[v][n] = other;
                rest /= 3;
            }
            if (can(two)) {
                return true;
            }
        }
        return false;
    }

    static int kind(boolean[][] met) {
        if (can(met)) {
            return claw(met) == null ? 0 : 1;
        }
        if (round(met)) {
            return 2;
        }
        for (int v = 0; v < met.length; v++) {
            if (twice(met, v)) {
                return 3;
            }
        }
        return -1;
    }
}
