import java.util.NoSuchElementException;

/** Guests who stayed once and remember whom they met, and how their stays can be laid along one night. */
public final class InnNight {

    public static final int NONE = -1;

    private static final int MOST_GUESTS = 9;
    private static final int MOST_MEMORIES = 40;
    private static final int MOST_BYTES = 400;
    private static final int FED_BYTES = 20;
    private static final int MOST_OPEN = 8;
    private static final int MOST_LIES = 10;
    private static final int MOST_LISTED = 60;
    private static final int LAST_HOUR = 99;

    // The words of a LINE as about() numbers them; the first three are what pair() answers, too.
    private static final int MET = 0;
    private static final int APART = 1;
    private static final int OPEN = 2;
    private static final int AHEAD = 3;

    // The number that a GUEST's second coming has among Meetings, behind all GUESTS.
    private static final int SECOND_COMING = MOST_GUESTS;

    // A graph without a RING has no more MOMENTS than GUESTS, so more of them can never be laid.
    private static final int MOST_LAID = MOST_GUESTS;
    private static final int MOST_MOMENTS = 27;
    private static final int CUTS = 1 << MOST_LAID;
    private static final int MOST_NODES = 2 * MOST_LAID - 1;

    private final Tape tape = new Tape();
    private final Reader reader = new Reader(tape);
    private final Book book = new Book();
    private final Book kept = new Book();
    private final Pairs pairs = new Pairs();
    private final Pairs guessed = new Pairs();
    private final Meetings meetings = new Meetings(MOST_GUESTS + 1);
    private final Meetings trial = new Meetings(MOST_GUESTS + 1);
    private final Laying plain = new Laying();
    private final Laying obeying = new Laying();
    private final Laying tried = new Laying();
    private final Chart chart = new Chart();
    private final Fewest struckLies = new Fewest();
    private final Fewest leftOut = new Fewest();
    private final int[] doubted = new int[MOST_LIES];
    private Meetings crowd = null;
    private boolean isKept = false;
    private int wrongByte = NONE;

    public InnNight() {
    }

    public int feed(int a, int b, int c, int d, int e) {
        if (tape.size + FED_BYTES > MOST_BYTES) {
            return NONE;
        }
        tape.put(a);
        tape.put(b);
        tape.put(c);
        tape.put(d);
        tape.put(e);
        return tape.size;
    }

    public boolean end(int n) {
        if (n < 0 || n > tape.size) {
            return false;
        }
        tape.size = n;
        return true;
    }

    public int guest() throws UnsupportedOperationException {
        if (book.guests >= MOST_GUESTS) {
            throw new UnsupportedOperationException();
        }
        int number = book.guests;
        book.guests++;
        forget();
        return number;
    }

    public int memory() throws IllegalArgumentException, UnsupportedOperationException {
        wrongByte = reader.read(book.guests);
        tape.size = 0;
        if (wrongByte != NONE) {
            throw new IllegalArgumentException();
        }
        if (book.memories + reader.lines > MOST_MEMORIES) {
            throw new UnsupportedOperationException();
        }
        for (int line = 0; line < reader.lines && line < MOST_MEMORIES; line++) {
            book.remember(reader, line);
        }
        forget();
        return reader.lines;
    }

    public int fault() {
        return wrongByte;
    }

    public int about(int memory, int what) throws IndexOutOfBoundsException, NoSuchElementException {
        needMemory(memory);
        switch (what) {
            case 0:
                return book.word[memory];
            case 1:
                return book.first[memory];
            case 2:
                return book.second[memory];
            case 3:
                return book.teller[memory];
            case 4:
                return book.sure[memory];
            case 5:
                return book.isInForce(memory) ? 1 : 0;
            case 6:
                return rules(memory) ? 1 : 0;
            default:
                throw new NoSuchElementException();
        }
    }

    public boolean strike(int memory, boolean is) throws IndexOutOfBoundsException {
        needMemory(memory);
        if (book.isInForce(memory) != is) {
            return false;
        }
        book.inForce ^= 1L << memory;
        forget();
        return true;
    }

    public int pair(int a, int b) throws IndexOutOfBoundsException {
        needGuest(a);
        needGuest(b);
        settlePairs();
        return a == b ? NONE : pairs.stateOf(book, a, b);
    }

    public int quarrel(int n) {
        int number = 0;
        for (int lesser = 0; lesser < book.memories; lesser++) {
            for (int greater = lesser + 1; greater < book.memories; greater++) {
                if (book.isQuarrel(lesser, greater)) {
                    if (number == n) {
                        return MOST_MEMORIES * lesser + greater;
                    }
                    number++;
                }
            }
        }
        return NONE;
    }

    public int quarrels(int guest) throws IndexOutOfBoundsException {
        needGuest(guest);
        int number = 0;
        for (int lesser = 0; lesser < book.memories; lesser++) {
            for (int greater = lesser + 1; greater < book.memories; greater++) {
                boolean told = book.teller[lesser] == guest || book.teller[greater] == guest;
                if (told && book.isQuarrel(lesser, greater)) {
                    number++;
                }
            }
        }
        return number;
    }

    public boolean can() {
        settleLaying();
        return plain.isLaid();
    }

    public int moments() {
        settleLaying();
        return plain.size;
    }

    public int moment(int k) throws NoSuchElementException {
        settleLaying();
        if (k < 0 || k >= plain.size || k >= MOST_MOMENTS) {
            throw new NoSuchElementException();
        }
        return plain.moment[k];
    }

    public int lay(int place) throws IllegalStateException {
        needLaying();
        if (place < 0 || place >= plain.size || place >= MOST_LAID) {
            return NONE;
        }
        return plain.least[place];
    }

    public int stays(int guest, boolean last) throws IndexOutOfBoundsException, IllegalStateException {
        needGuest(guest);
        needLaying();
        return last ? plain.lastPlace(guest) : plain.firstPlace(guest);
    }

    public int knot() {
        settleLaying();
        if (plain.isLaid()) {
            return 0;
        }
        return meetings.isRingless(allGuests()) ? 2 : 1;
    }

    public int ring() {
        settlePairs();
        if (meetings.isRingless(allGuests())) {
            return 0;
        }
        for (int many = 4; many <= book.guests; many++) {
            for (int set = 0; set < 1 << book.guests; set++) {
                if (Integer.bitCount(set) == many && meetings.isRing(set)) {
                    return set;
                }
            }
        }
        return 0;
    }

    public int three(int k) {
        settlePairs();
        int found = meetings.findThree(allGuests());
        if (found == NONE || k < 0 || k > 2) {
            return NONE;
        }
        return found >> 6 * k & 63;
    }

    public int small() {
        settleLaying();
        if (plain.isLaid()) {
            return 0;
        }
        for (int many = 4; many <= book.guests; many++) {
            for (int set = 0; set < 1 << book.guests; set++) {
                if (Integer.bitCount(set) == many && !meetings.isLayable(set)) {
                    return set;
                }
            }
        }
        return 0;
    }

    public int check(int set) {
        settlePairs();
        long those = set & allGuests();
        if (meetings.isLayable(those)) {
            return 0;
        }
        if (meetings.isRing(those)) {
            return 1;
        }
        for (int guest = 0; guest < book.guests; guest++) {
            if ((those >> guest & 1) != 0 && !meetings.isLayable(those & ~(1L << guest))) {
                return 3;
            }
        }
        return 2;
    }

    public long count() {
        settleLaying();
        return plain.layings();
    }

    public int node(int k, int what) throws IllegalStateException, NoSuchElementException {
        needLaying();
        if (what < 0 || what > 3) {
            throw new NoSuchElementException();
        }
        settleChart();
        if (k < 0 || k >= chart.size || k >= MOST_NODES) {
            return NONE;
        }
        switch (what) {
            case 0:
                return chart.kindOf[k];
            case 1:
                return chart.momentsFrom(plain, chart.begin[k], chart.till[k]);
            case 2:
                return chart.above[k];
            default:
                return chart.parts[k];
        }
    }

    public boolean between(int a, int b, int c) throws IndexOutOfBoundsException, IllegalStateException {
        needGuest(a);
        needGuest(b);
        needGuest(c);
        needLaying();
        if (!areApart(a, b) || !areApart(b, c) || !areApart(a, c)) {
            return false;
        }
        int middle = plain.momentsOf(b);
        int outer = plain.momentsOf(a) | plain.momentsOf(c);
        return !plain.isCut(middle, outer) && !plain.isCut(outer, middle);
    }

    public int opens() {
        settlePairs();
        return pairs.opens;
    }

    public int choose(boolean most) {
        settlePairs();
        int open = Math.min(pairs.opens, MOST_OPEN);
        for (int step = 0; step <= open; step++) {
            int many = most ? open - step : step;
            for (int set = 0; set < 1 << open; set++) {
                if (Integer.bitCount(set) == many && isLayableWith(set)) {
                    return set;
                }
            }
        }
        return NONE;
    }

    public int ask() {
        settleLaying();
        int best = NONE;
        int fewest = 0;
        for (int open = 0; open < pairs.opens && open < MOST_OPEN; open++) {
            trial.copy(meetings);
            trial.join(pairs.openFirst[open], pairs.openSecond[open]);
            tried.findMoments(trial, book.guests);
            tried.findLayings();
            int left = Math.max(plain.layings(), tried.layings());
            if (best == NONE || left < fewest) {
                best = open;
                fewest = left;
            }
        }
        return best;
    }

    public void stay(int guest, int from, int till) throws IndexOutOfBoundsException, IllegalArgumentException {
        needGuest(guest);
        if (from < 0 || from > till || till > LAST_HOUR) {
            throw new IllegalArgumentException();
        }
        book.came[guest] = from;
        book.went[guest] = till;
    }

    public int judge(int what) throws NoSuchElementException {
        if (what < 0 || what > 3) {
            throw new NoSuchElementException();
        }
        settlePairs();
        int number = 0;
        for (int a = 0; a < book.guests; a++) {
            for (int b = a + 1; b < book.guests; b++) {
                if (book.came[a] != NONE && book.came[b] != NONE && isJudged(a, b, what)) {
                    number++;
                }
            }
        }
        return number;
    }

    public int lies(int what) throws NoSuchElementException {
        if (what < 0 || what > 2) {
            throw new NoSuchElementException();
        }
        if (!struckLies.isKnown) {
            findLies();
        }
        return struckLies.tell(what);
    }

    public int leave(int what) throws NoSuchElementException {
        if (what < 0 || what > 2) {
            throw new NoSuchElementException();
        }
        if (!leftOut.isKnown) {
            findLeftOut();
        }
        return leftOut.tell(what);
    }

    public int kind() {
        settleLaying();
        if (plain.isLaid()) {
            return claw(0) == NONE ? 0 : 1;
        }
        if (standsInRing()) {
            return 2;
        }
        for (int guest = 0; guest < book.guests; guest++) {
            if (canComeTwice(guest)) {
                return 3;
            }
        }
        return NONE;
    }

    public int claw(int k) {
        settlePairs();
        if (k < 0 || k > 3) {
            return NONE;
        }
        for (int guest = 0; guest < book.guests; guest++) {
            int found = meetings.findApart(meetings.met[guest]);
            if (found != NONE) {
                return k == 0 ? guest : found >> 6 * (k - 1) & 63;
            }
        }
        return NONE;
    }

    public boolean round() {
        settleLaying();
        return standsInRing();
    }

    public boolean twice(int guest) throws IndexOutOfBoundsException {
        needGuest(guest);
        settleLaying();
        return canComeTwice(guest);
    }

    public int room(int guest) throws IndexOutOfBoundsException, IllegalStateException {
        needGuest(guest);
        needLaying();
        plain.giveRooms(book.guests);
        return plain.roomOf[guest];
    }

    public int rooms() throws IllegalStateException {
        needLaying();
        plain.giveRooms(book.guests);
        int needed = 0;
        for (int guest = 0; guest < book.guests; guest++) {
            needed = Math.max(needed, plain.roomOf[guest] + 1);
        }
        return needed;
    }

    public long obey() {
        settleOrders();
        return obeying.layings();
    }

    public int span(int guest, boolean last) throws IndexOutOfBoundsException {
        needGuest(guest);
        settleOrders();
        return last ? obeying.latestFirst(guest) : obeying.earliestFirst(guest);
    }

    public int must(int a, int b) throws IndexOutOfBoundsException {
        needGuest(a);
        needGuest(b);
        settleOrders();
        if (!areApart(a, b)) {
            return NONE;
        }
        boolean isAhead = obeying.isCut(obeying.momentsOf(a), obeying.momentsOf(b));
        boolean isBehind = obeying.isCut(obeying.momentsOf(b), obeying.momentsOf(a));
        if (isAhead) {
            return isBehind ? 2 : 1;
        }
        return isBehind ? 0 : NONE;
    }

    public int list(int guests) throws IllegalArgumentException {
        // Most objects never have a LIST, and the rows for it are the longest of all.
        if (crowd == null) {
            crowd = new Meetings(MOST_LISTED);
        }
        boolean isRight = readList(guests, crowd);
        tape.size = 0;
        if (!isRight) {
            throw new IllegalArgumentException();
        }
        long all = (1L << guests) - 1L;
        boolean isRingless = crowd.isRingless(all);
        book.hasNoRing = isRingless ? 1 : 0;
        book.greatest = isRingless ? crowd.greatest : NONE;
        book.isLaid = isRingless && crowd.findThree(all) == NONE ? 1 : 0;
        book.listedPairs = crowd.pairsMet();
        book.listedGuests = guests;
        return book.listedPairs;
    }

    public int listed(int what) throws NoSuchElementException {
        switch (what) {
            case 0:
                return book.isLaid;
            case 1:
                return book.hasNoRing;
            case 2:
                return book.greatest;
            case 3:
                return book.listedPairs;
            case 4:
                return book.listedGuests;
            default:
                throw new NoSuchElementException();
        }
    }

    public void image() {
        kept.copy(book);
        isKept = true;
    }

    public boolean back() {
        if (!isKept) {
            return false;
        }
        book.copy(kept);
        forget();
        return true;
    }

    public int sum(int what) {
        switch (what) {
            case 0:
                return book.guests;
            case 1:
                return book.memories;
            case 2:
                return Long.bitCount(book.inForce);
            case 3:
                return book.allQuarrels();
            case 4:
                return pairsThatAre(MET);
            case 5:
                return pairsThatAre(APART);
            case 6:
                settleChart();
                return chart.size;
            default:
                return NONE;
        }
    }

    private void needGuest(int guest) {
        if (guest < 0 || guest >= book.guests) {
            throw new IndexOutOfBoundsException();
        }
    }

    private void needMemory(int memory) {
        if (memory < 0 || memory >= book.memories) {
            throw new IndexOutOfBoundsException();
        }
    }

    private void needLaying() {
        settleLaying();
        if (!plain.isLaid()) {
            throw new IllegalStateException();
        }
    }

    private void forget() {
        pairs.isKnown = false;
        plain.isKnown = false;
        obeying.isKnown = false;
        chart.isKnown = false;
        struckLies.isKnown = false;
        leftOut.isKnown = false;
    }

    private void settlePairs() {
        if (pairs.isKnown) {
            return;
        }
        pairs.settle(book, book.inForce);
        pairs.tellMeetings(book, meetings);
        pairs.findOpen(book);
        pairs.isKnown = true;
    }

    private void settleLaying() {
        if (plain.isKnown) {
            return;
        }
        settlePairs();
        plain.findMoments(meetings, book.guests);
        plain.findLayings();
        plain.findLeast();
        plain.isKnown = true;
    }

    private void settleOrders() {
        if (obeying.isKnown) {
            return;
        }
        settleLaying();
        obeying.takeMoments(plain);
        for (int a = 0; a < book.guests; a++) {
            for (int b = a + 1; b < book.guests; b++) {
                int ruler = pairs.rulerOf(a, b);
                if (ruler != NONE && book.word[ruler] == AHEAD) {
                    obeying.order(book.first[ruler], book.second[ruler]);
                }
            }
        }
        obeying.findLayings();
        obeying.isKnown = true;
    }

    private void settleChart() {
        if (chart.isKnown) {
            return;
        }
        settleLaying();
        chart.draw(plain);
        chart.isKnown = true;
    }

    private long allGuests() {
        return (1L << book.guests) - 1L;
    }

    private boolean rules(int memory) {
        settlePairs();
        return pairs.rulerOf(book.first[memory], book.second[memory]) == memory;
    }

    private boolean areApart(int a, int b) {
        return a != b && (meetings.met[a] >> b & 1) == 0;
    }

    private int pairsThatAre(int state) {
        settlePairs();
        int number = 0;
        for (int a = 0; a < book.guests; a++) {
            for (int b = a + 1; b < book.guests; b++) {
                if (pairs.stateOf(book, a, b) == state) {
                    number++;
                }
            }
        }
        return number;
    }

    private boolean isLayableWith(int chosen) {
        trial.copy(meetings);
        for (int open = 0; open < MOST_OPEN; open++) {
            if ((chosen >> open & 1) != 0) {
                trial.join(pairs.openFirst[open], pairs.openSecond[open]);
            }
        }
        return trial.isLayable(allGuests());
    }

    private boolean isJudged(int a, int b, int what) {
        if (what == 3) {
            int ruler = pairs.rulerOf(a, b);
            return ruler != NONE && book.word[ruler] == AHEAD
                    && book.went[book.first[ruler]] >= book.came[book.second[ruler]];
        }
        boolean together = book.came[a] <= book.went[b] && book.came[b] <= book.went[a];
        return pairs.stateOf(book, a, b) == what && together != (what == MET);
    }

    private void findLies() {
        int many = 0;
        for (int memory = 0; memory < book.memories && many < MOST_LIES; memory++) {
            if (book.isInForce(memory)) {
                doubted[many] = memory;
                many++;
            }
        }
        struckLies.begin();
        for (int size = 0; size <= many && struckLies.sets == 0; size++) {
            for (int set = 0; set < 1 << many; set++) {
                if (Integer.bitCount(set) == size && isLayableWithout(set)) {
                    struckLies.add(size, set);
                }
            }
        }
        struckLies.isKnown = true;
    }

    private boolean isLayableWithout(int lies) {
        long left = book.inForce;
        for (int lie = 0; lie < MOST_LIES; lie++) {
            if ((lies >> lie & 1) != 0) {
                left &= ~(1L << doubted[lie]);
            }
        }
        guessed.settle(book, left);
        guessed.tellMeetings(book, trial);
        return trial.isLayable(allGuests());
    }

    private void findLeftOut() {
        settlePairs();
        leftOut.begin();
        for (int size = 0; size <= book.guests && leftOut.sets == 0; size++) {
            for (int set = 0; set < 1 << book.guests; set++) {
                if (Integer.bitCount(set) == size && meetings.isLayable(allGuests() & ~set)) {
                    leftOut.add(size, set);
                }
            }
        }
        leftOut.isKnown = true;
    }

    /**
     * Where those of each GUEST stand side by side in a ring, so do those at which the GUEST was not. With
     * these taken for every GUEST of MOMENT 0, none has that one, and the ring can be cut open there.
     */
    private boolean standsInRing() {
        if (plain.size > MOST_LAID) {
            return false;
        }
        tried.takeMoments(plain);
        int turned = tried.moment[0];
        for (int k = 0; k < tried.size && k < MOST_LAID; k++) {
            tried.moment[k] ^= turned;
        }
        tried.findLayings();
        return tried.isLaid();
    }

    private boolean canComeTwice(int guest) {
        if (plain.isLaid()) {
            return true;
        }
        long others = allGuests() & ~(1L << guest);
        if (!meetings.isLayable(others)) {
            return false;
        }
        long met = meetings.met[guest];
        trial.copy(meetings);
        return canShare(trial, guest, met, allGuests() & ~met | 1L << SECOND_COMING, 0);
    }

    /** Some of the GUESTS who cannot be laid are never laid by more who come, so each gift is tried at once. */
    private static boolean canShare(Meetings comings, int guest, long left, long among, int depth) {
        if (left == 0L) {
            return true;
        }
        if (depth >= MOST_GUESTS) {
            return false;
        }
        int other = lowest(left);
        // The two comings are alike till the first gift, so that the second one alone need not have it.
        int gifts = depth == 0 ? 2 : 3;
        for (int gift = 0; gift < gifts; gift++) {
            if (gift != 2) {
                comings.join(guest, other);
            }
            if (gift != 0) {
                comings.join(SECOND_COMING, other);
            }
            long more = among | 1L << other;
            if (comings.isLayable(more) && canShare(comings, guest, left & left - 1L, more, depth + 1)) {
                return true;
            }
            comings.part(guest, other);
            comings.part(SECOND_COMING, other);
        }
        return false;
    }

    private boolean readList(int guests, Meetings told) {
        if (guests < 1 || guests > MOST_LISTED || tape.size % 2 != 0) {
            return false;
        }
        told.clear();
        for (int place = 0; place + 1 < tape.size; place += 2) {
            int one = tape.at(place);
            int other = tape.at(place + 1);
            if (one >= guests || other >= guests || one == other) {
                return false;
            }
            told.join(one, other);
        }
        return true;
    }

    private static int lowest(long set) {
        return Long.bitCount((set & -set) - 1L);
    }

    /** The bytes that were fed. */
    private static final class Tape {
        final byte[] signs = new byte[MOST_BYTES];
        int size = 0;

        void put(int number) {
            for (int shift = 24; shift >= 0 && size < MOST_BYTES; shift -= 8) {
                signs[size] = (byte) (number >> shift);
                size++;
            }
        }

        int at(int place) {
            return place >= 0 && place < size ? signs[place] & 255 : NONE;
        }
    }

    /** All that was told: what THE IMAGE keeps. */
    private static final class Book {
        int guests = 0;
        int memories = 0;
        long inForce = 0L;
        final int[] word = new int[MOST_MEMORIES];
        final int[] first = new int[MOST_MEMORIES];
        final int[] second = new int[MOST_MEMORIES];
        final int[] teller = new int[MOST_MEMORIES];
        final int[] sure = new int[MOST_MEMORIES];
        final int[] came = new int[MOST_GUESTS];
        final int[] went = new int[MOST_GUESTS];
        int isLaid = 1;
        int hasNoRing = 1;
        int greatest = 0;
        int listedPairs = 0;
        int listedGuests = 0;

        Book() {
            for (int guest = 0; guest < MOST_GUESTS; guest++) {
                came[guest] = NONE;
                went[guest] = NONE;
            }
        }

        void copy(Book other) {
            guests = other.guests;
            memories = other.memories;
            inForce = other.inForce;
            for (int memory = 0; memory < MOST_MEMORIES; memory++) {
                word[memory] = other.word[memory];
                first[memory] = other.first[memory];
                second[memory] = other.second[memory];
                teller[memory] = other.teller[memory];
                sure[memory] = other.sure[memory];
            }
            for (int guest = 0; guest < MOST_GUESTS; guest++) {
                came[guest] = other.came[guest];
                went[guest] = other.went[guest];
            }
            isLaid = other.isLaid;
            hasNoRing = other.hasNoRing;
            greatest = other.greatest;
            listedPairs = other.listedPairs;
            listedGuests = other.listedGuests;
        }

        void remember(Reader reader, int line) {
            if (memories >= MOST_MEMORIES) {
                return;
            }
            word[memories] = reader.word[line];
            first[memories] = reader.first[line];
            second[memories] = reader.second[line];
            teller[memories] = reader.teller[line];
            sure[memories] = reader.sure[line];
            inForce |= 1L << memories;
            memories++;
        }

        boolean isInForce(int memory) {
            return (inForce >> memory & 1) != 0;
        }

        boolean isQuarrel(int one, int other) {
            if (!isInForce(one) || !isInForce(other) || !isOnePair(one, other)) {
                return false;
            }
            return word[one] == MET && saysApart(other) || word[other] == MET && saysApart(one);
        }

        private boolean saysApart(int memory) {
            return word[memory] == APART || word[memory] == AHEAD;
        }

        private boolean isOnePair(int one, int other) {
            return first[one] == first[other] && second[one] == second[other]
                    || first[one] == second[other] && second[one] == first[other];
        }

        int allQuarrels() {
            int number = 0;
            for (int lesser = 0; lesser < memories; lesser++) {
                for (int greater = lesser + 1; greater < memories; greater++) {
                    if (isQuarrel(lesser, greater)) {
                        number++;
                    }
                }
            }
            return number;
        }
    }

    /** Reads a text of LINES thing by thing: words, numbers, semicolons. */
    private static final class Reader {
        private static final int END = 0;
        private static final int WORD = 1;
        private static final int NUMBER = 2;
        private static final int SEMICOLON = 3;
        private static final int OTHER = 4;

        // Words that are no begin of a LINE; what the thing tells if it is a word of the text at all.
        private static final int BY = 4;
        private static final int SURE = 5;
        private static final int NO_WORD = 6;

        private static final int SURE_UNTOLD = 50;
        private static final int MOST_SURE = 99;

        final int[] word = new int[MOST_MEMORIES];
        final int[] first = new int[MOST_MEMORIES];
        final int[] second = new int[MOST_MEMORIES];
        final int[] teller = new int[MOST_MEMORIES];
        final int[] sure = new int[MOST_MEMORIES];
        int lines = 0;
        private final Tape tape;
        private int guests = 0;
        private int next = 0;
        private int begin = 0;
        private int thing = END;
        private int value = NONE;

        Reader(Tape text) {
            tape = text;
        }

        /** The first wrong byte, or NONE. */
        int read(int known) {
            guests = known;
            next = 0;
            lines = 0;
            step();
            if (thing == END) {
                return NONE;
            }
            for (int line = 0; line < MOST_BYTES; line++) {
                if (!readLine()) {
                    return begin;
                }
                if (thing == END) {
                    return NONE;
                }
                if (thing != SEMICOLON) {
                    return begin;
                }
                step();
            }
            return begin;
        }

        private boolean readLine() {
            if (thing != WORD || value > AHEAD) {
                return false;
            }
            int told = value;
            step();
            if (!isGuest()) {
                return false;
            }
            int one = value;
            step();
            if (!isGuest() || value == one) {
                return false;
            }
            int other = value;
            step();
            int by = NONE;
            if (thing == WORD && value == BY) {
                step();
                if (!isGuest()) {
                    return false;
                }
                by = value;
                step();
            }
            int weight = SURE_UNTOLD;
            if (thing == WORD && value == SURE) {
                step();
                if (thing != NUMBER || value < 1 || value > MOST_SURE) {
                    return false;
                }
                weight = value;
                step();
            }
            keep(told, one, other, by, weight);
            return true;
        }

        /** Lines beyond the rows are counted alone: a text that has them is refused. */
        private void keep(int told, int one, int other, int by, int weight) {
            if (lines < MOST_MEMORIES) {
                word[lines] = told;
                first[lines] = one;
                second[lines] = other;
                teller[lines] = by;
                sure[lines] = weight;
            }
            lines++;
        }

        private boolean isGuest() {
            return thing == NUMBER && value >= 0 && value < guests;
        }

        private void step() {
            for (int skipped = 0; skipped < MOST_BYTES && tape.at(next) == ' '; skipped++) {
                next++;
            }
            begin = next;
            value = NONE;
            int sign = tape.at(next);
            if (sign == NONE) {
                thing = END;
            } else if (isLetter(sign)) {
                thing = WORD;
                next = wordEnd();
                value = wordRead();
            } else if (isDigit(sign)) {
                thing = NUMBER;
                next = numberEnd();
                value = numberRead();
            } else {
                thing = sign == ';' ? SEMICOLON : OTHER;
                next++;
            }
        }

        private int wordEnd() {
            int place = begin;
            for (int passed = 0; passed < MOST_BYTES && isLetter(tape.at(place)); passed++) {
                place++;
            }
            return place;
        }

        private int numberEnd() {
            int place = begin;
            for (int passed = 0; passed < MOST_BYTES && isDigit(tape.at(place)); passed++) {
                place++;
            }
            return place;
        }

        private int wordRead() {
            if (isSpelt("met")) {
                return MET;
            }
            if (isSpelt("apart")) {
                return APART;
            }
            if (isSpelt("open")) {
                return OPEN;
            }
            if (isSpelt("ahead")) {
                return AHEAD;
            }
            if (isSpelt("by")) {
                return BY;
            }
            return isSpelt("sure") ? SURE : NO_WORD;
        }

        private boolean isSpelt(String expected) {
            if (next - begin != expected.length()) {
                return false;
            }
            for (int k = 0; k < expected.length(); k++) {
                if (tape.at(begin + k) != expected.charAt(k)) {
                    return false;
                }
            }
            return true;
        }

        private int numberRead() {
            int low = tape.at(next - 1) - '0';
            if (next - begin == 1) {
                return low;
            }
            return next - begin == 2 ? 10 * (tape.at(begin) - '0') + low : NONE;
        }

        private static boolean isLetter(int sign) {
            return sign >= 'a' && sign <= 'z';
        }

        private static boolean isDigit(int sign) {
            return sign >= '0' && sign <= '9';
        }
    }

    /** Which MEMORY RULES each pair, and what the pair is by it. */
    private static final class Pairs {
        final int[] openFirst = new int[MOST_OPEN];
        final int[] openSecond = new int[MOST_OPEN];
        int opens = 0;
        boolean isKnown = false;
        private final int[] ruler = new int[MOST_GUESTS * MOST_GUESTS];

        void settle(Book book, long inForce) {
            for (int place = 0; place < ruler.length; place++) {
                ruler[place] = NONE;
            }
            for (int memory = 0; memory < book.memories; memory++) {
                if ((inForce >> memory & 1) != 0) {
                    int before = rulerOf(book.first[memory], book.second[memory]);
                    if (before == NONE || book.sure[memory] >= book.sure[before]) {
                        ruler[MOST_GUESTS * book.first[memory] + book.second[memory]] = memory;
                        ruler[MOST_GUESTS * book.second[memory] + book.first[memory]] = memory;
                    }
                }
            }
        }

        int rulerOf(int a, int b) {
            return ruler[MOST_GUESTS * a + b];
        }

        int stateOf(Book book, int a, int b) {
            int memory = ruler[MOST_GUESTS * a + b];
            if (memory == NONE || book.word[memory] == AHEAD) {
                return APART;
            }
            return book.word[memory];
        }

        void tellMeetings(Book book, Meetings meetings) {
            meetings.clear();
            for (int a = 0; a < book.guests; a++) {
                for (int b = a + 1; b < book.guests; b++) {
                    if (stateOf(book, a, b) == MET) {
                        meetings.join(a, b);
                    }
                }
            }
        }

        void findOpen(Book book) {
            opens = 0;
            for (int a = 0; a < book.guests; a++) {
                for (int b = a + 1; b < book.guests; b++) {
                    if (stateOf(book, a, b) == OPEN) {
                        if (opens < MOST_OPEN) {
                            openFirst[opens] = a;
                            openSecond[opens] = b;
                        }
                        opens++;
                    }
                }
            }
        }
    }

    /** Who has met whom, of GUESTS below the width; sets of these are told as bits. */
    private static final class Meetings {
        final long[] met;
        int greatest = 0;
        private final int width;
        private final int[] order;
        private final long[] ways;

        Meetings(int most) {
            width = most;
            met = new long[most];
            order = new int[most];
            ways = new long[most * most];
        }

        void clear() {
            for (int guest = 0; guest < width; guest++) {
                met[guest] = 0L;
            }
        }

        void copy(Meetings other) {
            for (int guest = 0; guest < width && guest < other.width; guest++) {
                met[guest] = other.met[guest];
            }
        }

        void join(int a, int b) {
            if (a >= 0 && a < width && b >= 0 && b < width) {
                met[a] |= 1L << b;
                met[b] |= 1L << a;
            }
        }

        void part(int a, int b) {
            if (a >= 0 && a < width && b >= 0 && b < width) {
                met[a] &= ~(1L << b);
                met[b] &= ~(1L << a);
            }
        }

        int pairsMet() {
            int ends = 0;
            for (int guest = 0; guest < width; guest++) {
                ends += Long.bitCount(met[guest]);
            }
            return ends / 2;
        }

        boolean isLayable(long among) {
            return isRingless(among) && findThree(among) == NONE;
        }

        /**
         * Takes the GUEST next who has met most of those taken: there is no RING just if those whom each one
         * has met among them have all met one another. The greatest MOMENT is found on the way.
         */
        boolean isRingless(long among) {
            long taken = 0L;
            greatest = 0;
            for (int step = 0; step < width; step++) {
                int guest = mostMet(among & ~taken, taken);
                if (guest == NONE) {
                    return true;
                }
                long before = met[guest] & taken;
                if (!haveMet(before, step)) {
                    return false;
                }
                greatest = Math.max(greatest, Long.bitCount(before) + 1);
                order[step] = guest;
                taken |= 1L << guest;
            }
            return true;
        }

        private int mostMet(long left, long taken) {
            int best = NONE;
            int most = NONE;
            for (int guest = 0; guest < width; guest++) {
                if ((left >> guest & 1) != 0) {
                    int many = Long.bitCount(met[guest] & taken);
                    if (many > most) {
                        best = guest;
                        most = many;
                    }
                }
            }
            return best;
        }

        /** Only the one taken last is asked: whom of them it has met was looked at when it was taken itself. */
        private boolean haveMet(long those, int taken) {
            for (int step = taken - 1; step >= 0; step--) {
                int guest = order[step];
                if ((those >> guest & 1) != 0) {
                    return (those & ~met[guest] & ~(1L << guest)) == 0L;
                }
            }
            return true;
        }

        /** THE THREE among some, six bits each from the least one on, or NONE. */
        int findThree(long among) {
            findWays(among);
            for (int a = 0; a < width; a++) {
                if ((among >> a & 1) == 0) {
                    continue;
                }
                for (int b = a + 1; b < width; b++) {
                    if ((among >> b & 1) != 0) {
                        int c = thirdOf(a, b);
                        if (c != NONE) {
                            return a | b << 6 | c << 12;
                        }
                    }
                }
            }
            return NONE;
        }

        private int thirdOf(int a, int b) {
            long both = ways[width * a + b] & ways[width * b + a];
            if (both == 0L) {
                return NONE;
            }
            for (int c = b + 1; c < width; c++) {
                if ((both >> c & 1) != 0 && (ways[width * c + a] >> b & 1) != 0) {
                    return c;
                }
            }
            return NONE;
        }

        /** In row a, column b: all to whom ways lead from b that have not a, nor any whom a has met. */
        private void findWays(long among) {
            for (int a = 0; a < width; a++) {
                if ((among >> a & 1) == 0) {
                    continue;
                }
                long allowed = among & ~met[a] & ~(1L << a);
                long left = allowed;
                for (int b = 0; b < width; b++) {
                    if ((allowed >> b & 1) == 0) {
                        ways[width * a + b] = 0L;
                    } else if ((left >> b & 1) != 0) {
                        long reached = reachedFrom(b, left);
                        left &= ~reached;
                        writeWays(a, reached);
                    }
                }
            }
        }

        private void writeWays(int a, long reached) {
            for (int b = 0; b < width; b++) {
                if ((reached >> b & 1) != 0) {
                    ways[width * a + b] = reached;
                }
            }
        }

        private long reachedFrom(int start, long within) {
            long reached = 1L << start;
            long todo = reached;
            for (int step = 0; step < width && todo != 0L; step++) {
                int guest = Long.bitCount((todo & -todo) - 1L);
                todo &= todo - 1L;
                long more = guest < width ? met[guest] & within & ~reached : 0L;
                reached |= more;
                todo |= more;
            }
            return reached;
        }

        boolean isRing(long set) {
            if (Long.bitCount(set) < 4) {
                return false;
            }
            for (int guest = 0; guest < width; guest++) {
                if ((set >> guest & 1) != 0 && Long.bitCount(met[guest] & set) != 2) {
                    return false;
                }
            }
            return reachedFrom(lowest(set), set) == set;
        }

        /** The least three of a set of whom no two have met, six bits each from the least one on, or NONE. */
        int findApart(long set) {
            for (int a = 0; a < width; a++) {
                if ((set >> a & 1) == 0) {
                    continue;
                }
                for (int b = a + 1; b < width; b++) {
                    if (((set & ~met[a]) >> b & 1) == 0) {
                        continue;
                    }
                    long others = set & ~met[a] & ~met[b] & -2L << b;
                    if (others != 0L) {
                        return a | b << 6 | lowest(others) << 12;
                    }
                }
            }
            return NONE;
        }
    }

    /**
     * MOMENTS, and all orders in which those of each GUEST stand side by side. A cut is the set of the
     * MOMENTS ahead of some place: whoever is there on both sides of it must be at the next MOMENT, and
     * whatever stands ahead is told by the set alone, so that the orders are counted cut by cut.
     */
    private static final class Laying {
        final int[] moment = new int[MOST_MOMENTS];
        final int[] least = new int[MOST_LAID];
        final int[] roomOf = new int[MOST_GUESTS];
        int size = 0;
        boolean isKnown = false;
        private final int[] mustPrecede = new int[MOST_LAID];
        private final int[] bothSides = new int[CUTS];
        private final int[] reached = new int[CUTS];
        private final int[] ends = new int[CUTS];

        /** A set is a MOMENT just if all who have met everyone of it, themselves counted, are the set itself. */
        void findMoments(Meetings meetings, int guests) {
            size = 0;
            bothSides[0] = (1 << guests) - 1;
            for (int set = 1; set < 1 << guests && set < CUTS; set++) {
                int guest = lowest(set);
                int met = (int) meetings.met[guest] | 1 << guest;
                bothSides[set] = bothSides[set & set - 1] & met;
                if (bothSides[set] == set && size < MOST_MOMENTS) {
                    moment[size] = set;
                    size++;
                }
            }
        }

        /** Orders told before are gone with the MOMENTS of before. */
        void takeMoments(Laying other) {
            size = other.size;
            for (int k = 0; k < size && k < MOST_MOMENTS; k++) {
                moment[k] = other.moment[k];
            }
            for (int k = 0; k < MOST_LAID; k++) {
                mustPrecede[k] = 0;
            }
        }

        void order(int earlier, int later) {
            int those = momentsOf(earlier);
            for (int k = 0; k < size && k < MOST_LAID; k++) {
                if ((moment[k] >> later & 1) != 0) {
                    mustPrecede[k] |= those;
                }
            }
        }

        void findLayings() {
            ends[0] = 0;
            if (size > MOST_LAID) {
                return;
            }
            int full = (1 << size) - 1;
            findBothSides(full);
            findReached(full);
            for (int cut = full; cut >= 0; cut--) {
                ends[cut] = cut == full ? 1 : 0;
                for (int k = 0; k < size && reached[cut] != 0; k++) {
                    if (mayFollow(cut, k)) {
                        ends[cut] += ends[cut | 1 << k];
                    }
                }
            }
        }

        private void findBothSides(int full) {
            reached[0] = 0;
            for (int cut = 1; cut <= full; cut++) {
                reached[cut] = reached[cut & cut - 1] | moment[lowest(cut)];
            }
            for (int cut = 0; cut <= full; cut++) {
                bothSides[cut] = reached[cut] & reached[full ^ cut];
            }
        }

        private void findReached(int full) {
            for (int cut = 0; cut <= full; cut++) {
                reached[cut] = cut == 0 ? 1 : 0;
            }
            for (int cut = 0; cut < full; cut++) {
                for (int k = 0; k < size && reached[cut] != 0; k++) {
                    if (mayFollow(cut, k)) {
                        reached[cut | 1 << k] = 1;
                    }
                }
            }
        }

        private boolean mayFollow(int cut, int k) {
            return (cut >> k & 1) == 0 && (bothSides[cut] & ~moment[k]) == 0 && (mustPrecede[k] & ~cut) == 0;
        }

        /** Whether some laying has just these MOMENTS ahead, and that one next. */
        private boolean leadsOn(int cut, int k) {
            return ends[cut] != 0 && mayFollow(cut, k) && ends[cut | 1 << k] != 0;
        }

        boolean isLaid() {
            return ends[0] != 0;
        }

        int layings() {
            return ends[0];
        }

        void findLeast() {
            int cut = 0;
            for (int place = 0; isLaid() && place < size && place < MOST_LAID; place++) {
                int next = 0;
                for (int k = size - 1; k >= 0; k--) {
                    next = leadsOn(cut, k) ? k : next;
                }
                least[place] = next;
                cut |= 1 << next;
            }
        }

        int momentsOf(int guest) {
            int those = 0;
            for (int k = 0; k < size && k < MOST_MOMENTS; k++) {
                those |= (moment[k] >> guest & 1) << k;
            }
            return those;
        }

        int firstPlace(int guest) {
            for (int place = 0; place < size && place < MOST_LAID; place++) {
                if ((moment[least[place]] >> guest & 1) != 0) {
                    return place;
                }
            }
            return NONE;
        }

        int lastPlace(int guest) {
            int last = NONE;
            for (int place = 0; place < size && place < MOST_LAID; place++) {
                if ((moment[least[place]] >> guest & 1) != 0) {
                    last = place;
                }
            }
            return last;
        }

        /** Whether some laying has all of the one set, and none of the other one, ahead of some place. */
        boolean isCut(int ahead, int behind) {
            for (int cut = 0; isLaid() && cut < 1 << size && cut < CUTS; cut++) {
                if (ends[cut] != 0 && (ahead & ~cut) == 0 && (behind & cut) == 0) {
                    return true;
                }
            }
            return false;
        }

        boolean isSideBySide(int set) {
            for (int cut = 0; isLaid() && cut < 1 << size && cut < CUTS; cut++) {
                int had = cut & set;
                if (ends[cut] == 0 || had == 0 || had == set) {
                    continue;
                }
                for (int k = 0; k < size; k++) {
                    if ((set >> k & 1) == 0 && leadsOn(cut, k)) {
                        return false;
                    }
                }
            }
            return true;
        }

        int earliestFirst(int guest) {
            int earliest = NONE;
            for (int cut = 0; isLaid() && cut < 1 << size && cut < CUTS; cut++) {
                int place = Integer.bitCount(cut);
                if ((earliest == NONE || place < earliest) && comesBehind(cut, guest)) {
                    earliest = place;
                }
            }
            return earliest;
        }

        int latestFirst(int guest) {
            int latest = NONE;
            for (int cut = 0; isLaid() && cut < 1 << size && cut < CUTS; cut++) {
                int place = Integer.bitCount(cut);
                if (place > latest && comesBehind(cut, guest)) {
                    latest = place;
                }
            }
            return latest;
        }

        private boolean comesBehind(int cut, int guest) {
            if ((momentsOf(guest) & cut) != 0) {
                return false;
            }
            for (int k = 0; k < size && k < MOST_LAID; k++) {
                if ((moment[k] >> guest & 1) != 0 && leadsOn(cut, k)) {
                    return true;
                }
            }
            return false;
        }

        void giveRooms(int guests) {
            for (int guest = 0; guest < MOST_GUESTS; guest++) {
                roomOf[guest] = NONE;
            }
            for (int place = 0; place < size && place < MOST_LAID; place++) {
                for (int guest = 0; guest < guests && guest < MOST_GUESTS; guest++) {
                    if (roomOf[guest] == NONE && (moment[least[place]] >> guest & 1) != 0) {
                        roomOf[guest] = freeRoom(place);
                    }
                }
            }
        }

        private int freeRoom(int place) {
            int held = 0;
            for (int guest = 0; guest < MOST_GUESTS; guest++) {
                if (roomOf[guest] != NONE && lastPlace(guest) >= place) {
                    held |= 1 << roomOf[guest];
                }
            }
            return lowest(~held);
        }
    }

    /** THE CHART. Its sets stand side by side in THE LEAST LAYING, too, so each is told by two places there. */
    private static final class Chart {
        private static final int SINGLE = 0;
        private static final int CHANGES = 1;
        private static final int TURNS = 2;

        final int[] kindOf = new int[MOST_NODES];
        final int[] begin = new int[MOST_NODES];
        final int[] till = new int[MOST_NODES];
        final int[] above = new int[MOST_NODES];
        final int[] parts = new int[MOST_NODES];
        int size = 0;
        boolean isKnown = false;
        private final boolean[] common = new boolean[MOST_LAID * MOST_LAID];
        private final boolean[] strong = new boolean[MOST_LAID * MOST_LAID];
        private final int[] partBegin = new int[MOST_LAID];
        private final int[] partTill = new int[MOST_LAID];
        private final int[] partLeast = new int[MOST_LAID];
        private int found = 0;

        void draw(Laying laying) {
            size = 0;
            if (!laying.isLaid() || laying.size == 0) {
                return;
            }
            findCommon(laying);
            findStrong(laying.size);
            begin[0] = 0;
            till[0] = laying.size - 1;
            above[0] = NONE;
            size = 1;
            // The parts go in right behind their node, and so each is unfolded ahead of the next one.
            for (int k = 0; k < size && k < MOST_NODES; k++) {
                findParts(laying, begin[k], till[k]);
                parts[k] = found;
                kindOf[k] = kindOfFound();
                sortParts(kindOf[k]);
                insertParts(k);
            }
        }

        int momentsFrom(Laying laying, int from, int to) {
            int set = 0;
            for (int place = Math.max(from, 0); place <= to && place < MOST_LAID; place++) {
                set |= 1 << laying.least[place];
            }
            return set;
        }

        private void findCommon(Laying laying) {
            for (int from = 0; from < laying.size && from < MOST_LAID; from++) {
                for (int to = from; to < laying.size && to < MOST_LAID; to++) {
                    common[MOST_LAID * from + to] = laying.isSideBySide(momentsFrom(laying, from, to));
                }
            }
        }

        private void findStrong(int places) {
            for (int from = 0; from < places && from < MOST_LAID; from++) {
                for (int to = from; to < places && to < MOST_LAID; to++) {
                    int place = MOST_LAID * from + to;
                    strong[place] = common[place] && !isCrossed(from, to, places);
                }
            }
        }

        private boolean isCrossed(int from, int to, int places) {
            for (int inner = from + 1; inner <= to; inner++) {
                for (int outer = to + 1; outer < places; outer++) {
                    if (common[MOST_LAID * inner + outer]) {
                        return true;
                    }
                }
                for (int outer = 0; outer < from; outer++) {
                    if (common[MOST_LAID * outer + inner - 1]) {
                        return true;
                    }
                }
            }
            return false;
        }

        private void findParts(Laying laying, int from, int to) {
            found = 0;
            int place = from;
            for (int step = 0; from < to && step < MOST_LAID && place <= to; step++) {
                int last = place;
                for (int end = place + 1; end <= to; end++) {
                    if (strong[MOST_LAID * place + end] && (place != from || end != to)) {
                        last = end;
                    }
                }
                partBegin[found] = place;
                partTill[found] = last;
                partLeast[found] = lowest(momentsFrom(laying, place, last));
                found++;
                place = last + 1;
            }
        }

        private int kindOfFound() {
            if (found == 0) {
                return SINGLE;
            }
            for (int one = 0; one < found; one++) {
                for (int other = one + 1; other < found; other++) {
                    boolean areAll = one == 0 && other == found - 1;
                    if (!areAll && common[MOST_LAID * partBegin[one] + partTill[other]]) {
                        return TURNS;
                    }
                }
            }
            return CHANGES;
        }

        private void sortParts(int kind) {
            if (kind == CHANGES) {
                for (int one = 0; one < found; one++) {
                    for (int other = one + 1; other < found; other++) {
                        if (partLeast[other] < partLeast[one]) {
                            swapParts(one, other);
                        }
                    }
                }
            } else if (kind == TURNS && partLeast[found - 1] < partLeast[0]) {
                for (int one = 0; one < found / 2; one++) {
                    swapParts(one, found - 1 - one);
                }
            }
        }

        private void swapParts(int one, int other) {
            int keptBegin = partBegin[one];
            int keptTill = partTill[one];
            int keptLeast = partLeast[one];
            partBegin[one] = partBegin[other];
            partTill[one] = partTill[other];
            partLeast[one] = partLeast[other];
            partBegin[other] = keptBegin;
            partTill[other] = keptTill;
            partLeast[other] = keptLeast;
        }

        private void insertParts(int node) {
            if (size + found > MOST_NODES) {
                return;
            }
            // Only nodes that are unfolded have parts, and these stand at or ahead of this one: none moves.
            for (int k = size - 1; k > node; k--) {
                begin[k + found] = begin[k];
                till[k + found] = till[k];
                above[k + found] = above[k];
            }
            for (int part = 0; part < found; part++) {
                begin[node + 1 + part] = partBegin[part];
                till[node + 1 + part] = partTill[part];
                above[node + 1 + part] = node;
            }
            size += found;
        }
    }

    /** The fewest that would do: how many, the least set of so many, and how many such sets there are. */
    private static final class Fewest {
        boolean isKnown = false;
        int sets = 0;
        private int many = NONE;
        private int which = NONE;

        void begin() {
            many = NONE;
            which = NONE;
            sets = 0;
        }

        void add(int size, int set) {
            if (sets == 0) {
                many = size;
                which = set;
            }
            sets++;
        }

        int tell(int what) {
            if (sets == 0) {
                return NONE;
            }
            if (what == 0) {
                return many;
            }
            return what == 1 ? which : sets;
        }
    }
}
