/** The edges of open pairs, STAYS judged, lies, kinds, rooms, orders and lists. A test for each sentence. */
public final class ChoosingBoundsTest {
    private static final int MIN = Integer.MIN_VALUE;
    private static final int MAX = Integer.MAX_VALUE;
    private static final String RING = "met 0 1;met 1 2;met 2 3;met 0 3";
    private static final String TWO_RINGS = RING + ";met 4 5;met 5 6;met 6 7;met 7 4";
    private static final String RING_OF_NINE =
            "met 0 1;met 1 2;met 2 3;met 3 4;met 4 5;met 5 6;met 6 7;met 7 8;met 8 0";
    private static final String SPIDER = "met 0 1;met 0 2;met 0 3;met 1 4;met 2 5;met 3 6";
    private static final String PATH = "met 0 1;met 1 2;met 2 3;met 3 4";
    private static final String ALL_AHEAD =
            "ahead 0 1;ahead 1 2;ahead 2 3;ahead 3 4;ahead 4 5;ahead 5 6;ahead 6 7;ahead 7 8";

    public static void main(String[] args) {
        orderOfOpenPairs();
        ninthOpenPair();
        fewestAndMost();
        opensCounted();
        chosenOfNone();
        askedWithoutOne();
        askedOfSeveral();
        numberOfTheAsked();
        hoursInCommon();
        aheadOfTheHour();
        ofWhomStaysAreTold();
        judgedEach();
        judgedAnother();
        firstTenLies();
        liesOfNone();
        leastLies();
        liesOfAnother();
        fewestLeftOut();
        leftOutOfAnother();
        kinds();
        clawOfTheLeast();
        clawOfAnother();
        roundAtMostNine();
        twiceOrBoth();
        roomsAreTaken();
        roomsOfOnePlace();
        roomsNeeded();
        whatObeys();
        spans();
        musts();
        mustOfNone();
        withoutOrders();
        listGuests();
        meetingsOfAList();
        listBytes();
        listInPlace();
        listIsPlain();
        listedAnother();
        listWithoutARing();
        Due.close();
    }

    private static String all(String word, int guests) {
        StringBuilder text = new StringBuilder();
        for (int a = 0; a < guests; a++) {
            for (int b = a + 1; b < guests; b++) {
                text.append(text.length() == 0 ? "" : ";").append(word).append(a).append(' ').append(b);
            }
        }
        return text.toString();
    }

    private static void chosen(String name, InnNight x, int fewest, int most) {
        Due.due(name + ": the fewest", x.choose(false), fewest);
        Due.due(name + ": the most", x.choose(true), most);
    }

    private static void orderOfOpenPairs() {
        Due.says("OPEN PAIRS, by their lesser GUEST, then the greater one, the first 8 of them (those behind count as "
                + "APART).");
        chosen("the chord behind one of a lesser guest", Due.inn(5, RING + ";open 3 1;open 4 0"), 2, 3);
        chosen("the chord behind one of the same guest",
                Due.inn(5, "met 0 1;met 1 3;met 3 4;met 4 0;open 3 0;open 2 0"), 2, 3);
        chosen("the chord ahead of one of the same guest", Due.inn(5, RING + ";open 4 0;open 2 0"), 1, 3);
        Due.due("asked by numbers of pairs", Due.inn(5, RING + ";open 3 1;open 4 0").ask(), 0);
    }

    private static void ninthOpenPair() {
        Due.says("the first 8 of them (those behind count as APART).");
        String eight = "open0 1;open0 2;open0 3;open0 4;open1 2;open1 3;open1 4;open2 3;";
        InnNight x = Due.inn(9, eight + "open6 8;met5 6;met6 7;met7 8;met8 5");
        Due.due("open pairs", x.opens(), 9);
        Due.due("the ninth is open, too", x.pair(6, 8), 2);
        chosen("the chord is the ninth", x, -1, -1);
        x.strike(7, true);
        chosen("the chord is the eighth", x, 128, 255);
        InnNight ten = Due.inn(5, all("open", 5));
        chosen("ten that may all be met", ten, 0, 255);
    }

    private static void fewestAndMost() {
        Due.says("CHOSEN: which of these are MET (the others APART), so that it CAN be laid: the fewest (or the most), "
                + "then the least bits; none.");
        chosen("one of two chords, or both", Due.inn(4, RING + ";open 0 2;open 1 3"), 1, 3);
        chosen("none, or one of two", Due.inn(4, "met 0 1;met 2 3;open 0 3;open 1 2"), 0, 1);
        chosen("one that would close a ring", Due.inn(4, "met 0 1;met 1 2;met 2 3;open 0 3"), 0, 0);
        chosen("and one that would not", Due.inn(6, "met 0 1;met 1 2;met 2 3;open 0 3;open 4 5"), 0, 2);
        chosen("none would do", Due.inn(5, RING + ";open 0 4"), -1, -1);
        chosen("two rings, each with a chord", Due.inn(8, TWO_RINGS + ";open 1 3;open 4 6"), 3, 3);
        chosen("two rings, one without", Due.inn(8, TWO_RINGS + ";open 1 3"), -1, -1);
    }

    private static void opensCounted() {
        Due.says("How many pairs are OPEN.");
        Due.due("no guests", new InnNight().opens(), 0);
        Due.due("none told", Due.inn(9).opens(), 0);
        Due.due("one told thrice", Due.inn(2, "open 0 1;open 1 0;open 0 1").opens(), 1);
        Due.due("one overruled", Due.inn(2, "open 0 1;met 1 0").opens(), 0);
        InnNight x = Due.inn(9, all("open", 9));
        Due.due("all of nine", x.opens(), 36);
        x.strike(35, true);
        Due.due("one struck", x.opens(), 35);
    }

    private static void chosenOfNone() {
        Due.says("CHOSEN (most false: the fewest), as bits; NONE.");
        chosen("no guests", new InnNight(), 0, 0);
        chosen("no open pairs", Due.inn(5, PATH), 0, 0);
        chosen("no open pairs of a ring", Due.inn(4, RING), -1, -1);
        chosen("eight who may all be met", Due.inn(5, "open0 1;open0 2;open0 3;open0 4;open1 2;open1 3;open1 4;open2 3"),
                0, 255);
    }

    private static void askedWithoutOne() {
        Due.says("of several the first; none without one.");
        Due.due("no guests", new InnNight().ask(), -1);
        Due.due("no open pairs", Due.inn(9).ask(), -1);
        Due.due("no open pairs of a ring", Due.inn(4, RING).ask(), -1);
        Due.due("one", Due.inn(2, "open 0 1").ask(), 0);
        Due.due("one that leaves none", Due.inn(5, RING + ";open 0 4").ask(), 0);
        Due.due("three alike", Due.inn(3, "open 1 2;open 0 2;open 0 1").ask(), 0);
        Due.due("thirty-six alike", Due.inn(9, all("open", 9)).ask(), 0);
    }

    private static void askedOfSeveral() {
        Due.says("ASKED: that OPEN pair which, told MET or told APART (the other OPEN ones as PLAIN), leaves the fewest "
                + "LAYINGS, where it leaves more");
        // MET with the chord 0 2 leaves 4 (guest 4 is loose), with 0 4 none: APART leaves none either way.
        Due.due("the second one leaves fewer", Due.inn(5, RING + ";open 0 2;open 0 4").ask(), 1);
        Due.due("the first one leaves fewer", Due.inn(5, "met 1 2;met 2 3;met 3 4;met 4 1;open 1 3;open 0 1").ask(), 0);
        // Now there are 4: told MET the first pair leaves 6, the second one 2, so 4 where it leaves more.
        Due.due("where it leaves more", Due.inn(4, "met 0 1;met 0 2;open 1 3;open 3 0").ask(), 1);
        // Now there are 6: told MET they leave 4 and 2, but told APART 6, both of them.
        Due.due("where it leaves more is APART", Due.inn(4, "met 0 1;open 0 2;open 2 3").ask(), 0);
    }

    private static void numberOfTheAsked() {
        Due.says("ASKED: its number (from 0 on); NONE.");
        // Nobody can be laid: told MET each of the first six would mend it, but not the seventh, two of the ends.
        InnNight net = Due.inn(6, "met 0 1;met 1 2;met 0 2;met 0 3;met 1 4;met 2 5;open 4 5;open 3 5;open 3 4;open 2 4;"
                + "open 2 3;open 1 5;open 1 3;open 0 5;open 0 4");
        Due.due("the seventh of nine", net.ask(), 6);
        net.strike(14, true);
        Due.due("the sixth of eight", net.ask(), 5);
        net.strike(8, true);
        net.strike(7, true);
        net.strike(6, true);
        Due.due("all five would mend it alike", net.ask(), 0);
        for (int memory = 9; memory < 14; memory++) {
            net.strike(memory, true);
        }
        Due.due("none is left", net.ask(), -1);
    }

    private static void judged(InnNight x, int met, int apart, int open, int ahead) {
        int[] want = {met, apart, open, ahead};
        for (int what = 0; what < 4; what++) {
            Due.due("judge " + what, x.judge(what), want[what]);
        }
    }

    private static InnNight stays(String text, int... hours) {
        InnNight x = Due.inn(hours.length / 2, text);
        for (int guest = 0; guest < hours.length / 2; guest++) {
            x.stay(guest, hours[2 * guest], hours[2 * guest + 1]);
        }
        return x;
    }

    private static void hoursInCommon() {
        Due.says("pairs that are MET whose STAYS have no hour in common; that are APART and have one; that are OPEN and "
                + "have one");
        judged(stays("met 0 1", 0, 5, 5, 9), 0, 0, 0, 0);
        judged(stays("met 0 1", 0, 5, 6, 9), 1, 0, 0, 0);
        judged(stays("met 0 1", 5, 9, 0, 5), 0, 0, 0, 0);
        judged(stays("met 0 1", 6, 9, 0, 5), 1, 0, 0, 0);
        judged(stays("met 0 1", 0, 99, 50, 50), 0, 0, 0, 0);
        judged(stays("met 0 1", 99, 99, 0, 99), 0, 0, 0, 0);
        judged(stays("met 0 1", 0, 0, 0, 0), 0, 0, 0, 0);
        judged(stays("apart 0 1", 0, 5, 5, 9), 0, 1, 0, 0);
        judged(stays("apart 0 1", 0, 5, 6, 9), 0, 0, 0, 0);
        judged(stays("", 0, 5, 5, 9), 0, 1, 0, 0);
        judged(stays("open 0 1", 5, 9, 0, 5), 0, 0, 1, 0);
        judged(stays("open 0 1", 6, 9, 0, 5), 0, 0, 0, 0);
        judged(stays("met 0 1;open 0 2;met 1 2", 0, 1, 2, 3, 1, 2), 1, 0, 1, 0);
        judged(stays("", 1, 1, 1, 1, 1, 1, 1, 1, 1, 1, 1, 1, 1, 1, 1, 1, 1, 1), 0, 36, 0, 0);
    }

    private static void aheadOfTheHour() {
        Due.says("pairs that an ahead MEMORY RULES, of which the first one was not gone ahead of the hour at which the "
                + "second one came.");
        judged(stays("ahead 0 1", 0, 5, 6, 9), 0, 0, 0, 0);
        judged(stays("ahead 0 1", 0, 5, 5, 9), 0, 1, 0, 1);
        judged(stays("ahead 0 1", 0, 6, 5, 9), 0, 1, 0, 1);
        judged(stays("ahead 0 1", 6, 9, 0, 5), 0, 0, 0, 1);
        judged(stays("ahead 1 0", 6, 9, 0, 5), 0, 0, 0, 0);
        judged(stays("ahead 1 0", 0, 5, 6, 9), 0, 0, 0, 1);
        judged(stays("ahead 0 1;apart 0 1", 6, 9, 0, 5), 0, 0, 0, 0);
        judged(stays("ahead 0 1;ahead 1 0", 6, 9, 0, 5), 0, 0, 0, 0);
        judged(stays("ahead 0 1 sure 51;ahead 1 0", 6, 9, 0, 5), 0, 0, 0, 1);
    }

    private static void ofWhomStaysAreTold() {
        Due.says("JUDGED, of GUESTS of whom STAYS are told");
        InnNight x = Due.inn(3, "met 0 1;apart 1 2;ahead 2 0");
        judged(x, 0, 0, 0, 0);
        x.stay(0, 0, 99);
        judged(x, 0, 0, 0, 0);
        x.stay(2, 0, 0);
        judged(x, 0, 1, 0, 1);
        x.stay(1, 50, 50);
        judged(x, 0, 1, 0, 1);
        judged(new InnNight(), 0, 0, 0, 0);
    }

    private static void judgedEach() {
        Due.says("JUDGED what 0 MET without, 1 APART with, 2 OPEN with an hour in common, 3 ahead not so.");
        judged(stays("met 0 1;met 0 2;met 1 2", 0, 0, 1, 1, 2, 2), 3, 0, 0, 0);
        judged(stays("apart 0 1", 1, 2, 2, 3, 3, 4), 0, 2, 0, 0);
        judged(stays("open 0 1;open 1 2;open 0 2", 1, 2, 2, 3, 3, 4), 0, 0, 2, 0);
        judged(stays("ahead 0 1;ahead 1 2;ahead 0 2", 1, 2, 2, 3, 3, 4), 0, 2, 0, 2);
        judged(stays("met 0 1;apart 0 2;open 0 3;ahead 0 4", 5, 5, 6, 6, 5, 5, 5, 5, 4, 4), 1, 2, 1, 1);
    }

    private static void judgedAnother() {
        Due.says("3 ahead not so. NoSuchElementException: another what.");
        InnNight x = Due.inn(2);
        int[] none = {-1, 4, MIN, MAX};
        for (int what : none) {
            Due.refuses("judge " + what, Due.NO_WHAT, () -> x.judge(what));
            Due.refuses("judge " + what + " of no guests", Due.NO_WHAT, () -> new InnNight().judge(what));
        }
    }

    private static void fewest(String name, InnNight x, boolean lies, int many, int which, int sets) {
        int[] want = {many, which, sets};
        for (int what = 0; what < 3; what++) {
            Due.due(name + " " + what, lies ? x.lies(what) : x.leave(what), want[what]);
        }
    }

    private static String times(int many, String line) {
        StringBuilder text = new StringBuilder();
        for (int k = 0; k < many; k++) {
            text.append(line).append(';');
        }
        return text.toString();
    }

    private static void firstTenLies() {
        Due.says("LIES: of the MEMORIES in force, the first 10 by numbers: the fewest of these that must be struck so "
                + "that it CAN be laid, of several the least bits (bit 0 the first of these)");
        fewest("a ring that is 7 to 10", Due.inn(6, times(6, "met 4 5") + RING), true, 1, 64, 4);
        fewest("a ring that is 8 to 11", Due.inn(6, times(7, "met 4 5") + RING), true, 1, 128, 3);
        fewest("a ring that is 10 to 13", Due.inn(6, times(9, "met 4 5") + RING), true, 1, 512, 1);
        InnNight x = Due.inn(6, times(10, "met 4 5") + RING);
        fewest("a ring that is 11 to 14", x, true, -1, -1, -1);
        x.strike(0, true);
        fewest("one of those ahead struck", x, true, 1, 512, 1);
        x.strike(13, true);
        fewest("one of the ring struck", x, true, 0, 0, 1);
        x.strike(13, false);
        x.strike(1, true);
        fewest("two of those ahead struck", x, true, 1, 256, 2);
        Due.due("none is struck by asking", x.sum(2), 12);
        InnNight first = Due.inn(4, "met 0 2;" + RING);
        first.strike(0, true);
        fewest("bit 0 is the first in force", first, true, 1, 1, 4);
    }

    private static void liesOfNone() {
        Due.says("none, if all struck would not do.");
        fewest("a ring behind ten", Due.inn(6, times(10, "met 4 5") + RING), true, -1, -1, -1);
        fewest("a ring that stays a ring",
                Due.inn(4, RING + ";apart 0 2;apart 1 3;apart 0 2;apart 1 3;apart 0 2;apart 1 3;" + RING), true,
                -1, -1, -1);
        fewest("no memories", Due.inn(9), true, 0, 0, 1);
        fewest("no guests", new InnNight(), true, 0, 0, 1);
    }

    private static void leastLies() {
        Due.says("the fewest of these that must be struck so that it CAN be laid, of several the least bits");
        fewest("a ring", Due.inn(4, RING), true, 1, 1, 4);
        fewest("a ring told twice", Due.inn(4, RING + ";" + RING), true, 2, 17, 4);
        fewest("two rings", Due.inn(8, TWO_RINGS), true, 2, 17, 16);
        fewest("an apart that overrules a chord", Due.inn(4, "met 0 2;apart 0 2;met 0 1;met 1 2;met 2 3;met 3 0"), true,
                1, 2, 5);
        fewest("an open that overrules a chord", Due.inn(4, "open 0 2 sure 51;met 0 2;" + RING), true, 1, 1, 5);
        fewest("a row", Due.inn(5, PATH), true, 0, 0, 1);
    }

    private static void liesOfAnother() {
        Due.says("LIES what 0 how many, 1 which, as bits, 2 how many sets of so many would do; NONE for all without. "
                + "NoSuchElementException: another what.");
        InnNight x = Due.inn(4, RING);
        InnNight without = Due.inn(6, times(10, "met 4 5") + RING);
        int[] none = {-1, 3, MIN, MAX};
        for (int what : none) {
            Due.refuses("lies " + what, Due.NO_WHAT, () -> x.lies(what));
            Due.refuses("lies " + what + " without", Due.NO_WHAT, () -> without.lies(what));
            Due.refuses("lies " + what + " of no guests", Due.NO_WHAT, () -> new InnNight().lies(what));
        }
    }

    private static void fewestLeftOut() {
        Due.says("LEFT OUT: the fewest GUESTS without whom the others CAN be laid, then the least bits.");
        fewest("a row", Due.inn(5, PATH), false, 0, 0, 1);
        fewest("no guests", new InnNight(), false, 0, 0, 1);
        fewest("a ring", Due.inn(4, RING), false, 1, 1, 4);
        fewest("a ring of greater numbers", Due.inn(9, "met 5 6;met 6 7;met 7 8;met 8 5"), false, 1, 32, 4);
        fewest("two rings", Due.inn(8, TWO_RINGS), false, 2, 17, 16);
        fewest("two rings of one guest", Due.inn(7, RING + ";met 3 4;met 4 5;met 5 6;met 6 3"), false, 1, 8, 1);
        fewest("a spider", Due.inn(7, SPIDER), false, 1, 1, 7);
        fewest("a ring of nine", Due.inn(9, RING_OF_NINE), false, 1, 1, 9);
    }

    private static void leftOutOfAnother() {
        Due.says("LEFT OUT what 0 how many, 1 which, 2 how many sets of so many would do. NoSuchElementException: another "
                + "what.");
        InnNight x = Due.inn(4, RING);
        int[] none = {-1, 3, MIN, MAX};
        for (int what : none) {
            Due.refuses("leave " + what, Due.NO_WHAT, () -> x.leave(what));
            Due.refuses("leave " + what + " of no guests", Due.NO_WHAT, () -> new InnNight().leave(what));
        }
    }

    private static void kinds() {
        Due.says("KIND: the first of these; none.");
        Due.due("no guests", new InnNight().kind(), 0);
        Due.due("nine apart", Due.inn(9).kind(), 0);
        Due.due("nine who met", Due.inn(9, all("met", 9)).kind(), 0);
        Due.due("a row", Due.inn(5, PATH).kind(), 0);
        Due.due("a claw", Due.inn(4, "met 0 1;met 0 2;met 0 3").kind(), 1);
        Due.due("a ring", Due.inn(4, RING).kind(), 2);
        Due.due("a ring that has a claw", Due.inn(6, RING + ";met 0 4;met 0 5").kind(), 2);
        Due.due("a ring of nine", Due.inn(9, RING_OF_NINE).kind(), 2);
        Due.due("a ring and one alone", Due.inn(5, RING).kind(), 3);
        Due.due("a spider", Due.inn(7, SPIDER).kind(), 3);
        Due.due("two rings", Due.inn(8, TWO_RINGS).kind(), -1);
        Due.due("two rings of one guest", Due.inn(7, RING + ";met 3 4;met 4 5;met 5 6;met 6 3").kind(), -1);
    }

    private static void clawIs(String name, InnNight x, int... want) {
        for (int k = 0; k < 4; k++) {
            Due.due(name + " " + k, x.claw(k), want[k]);
        }
    }

    private static void clawOfTheLeast() {
        Due.says("CLAW: a GUEST who has MET three, each two of them APART (the least GUEST, then the least numbers of the "
                + "three)");
        clawIs("of nine", Due.inn(9, "met 8 0;met 8 1;met 8 2;met 8 3;met 8 4;met 8 5;met 8 6;met 8 7"), 8, 0, 1, 2);
        clawIs("two guests who have one", Due.inn(8, "met 1 5;met 1 6;met 1 7;met 0 1;met 0 2;met 0 3"), 0, 1, 2, 3);
        clawIs("the greatest numbers", Due.inn(9, "met 5 6;met 5 7;met 5 8"), 5, 6, 7, 8);
        clawIs("the first two met", Due.inn(5, "met 0 1;met 0 2;met 0 3;met 0 4;met 1 2"), 0, 1, 3, 4);
        clawIs("the last two met", Due.inn(5, "met 0 1;met 0 2;met 0 3;met 0 4;met 3 4"), 0, 1, 2, 3);
        clawIs("the first and the third met", Due.inn(5, "met 0 1;met 0 2;met 0 3;met 0 4;met 1 3"), 0, 1, 2, 4);
        clawIs("one who has met none of three with it",
                Due.inn(6, "met 0 1;met 0 2;met 0 3;met 0 4;met 0 5;met 1 2;met 1 3;met 1 4"), 0, 2, 3, 4);
        clawIs("three of whom two met", Due.inn(4, "met 0 1;met 0 2;met 0 3;met 2 3"), -1, -1, -1, -1);
        clawIs("two met", Due.inn(3, "met 0 1;met 0 2"), -1, -1, -1, -1);
        clawIs("a ring", Due.inn(9, RING_OF_NINE), -1, -1, -1, -1);
        clawIs("of a ring that cannot be laid", Due.inn(6, RING + ";met 0 4;met 0 5"), 0, 1, 3, 4);
    }

    private static void clawOfAnother() {
        Due.says("GUEST k of THE CLAW (0 who has MET the three, 1 to 3 these); NONE without one, or for another k.");
        InnNight x = Due.inn(4, "met 3 0;met 3 1;met 3 2");
        clawIs("a claw", x, 3, 0, 1, 2);
        int[] none = {-1, 4, 5, 6, 32, MIN, MAX};
        for (int k : none) {
            Due.due("claw " + k, x.claw(k), -1);
        }
        clawIs("no guests", new InnNight(), -1, -1, -1, -1);
    }

    private static void roundAtMostNine() {
        Due.says("2 ROUND: there are at most 9 MOMENTS, and they can stand in a ring so that those of each GUEST stand "
                + "side by side");
        Due.due("no moments", new InnNight().round(), true);
        Due.due("one moment", Due.inn(9, all("met", 9)).round(), true);
        Due.due("nine apart", Due.inn(9).round(), true);
        Due.due("a ring of four", Due.inn(4, RING).round(), true);
        Due.due("a ring of nine, nine moments", Due.inn(9, RING_OF_NINE).round(), true);
        Due.due("a ring and one alone, five moments", Due.inn(5, RING).round(), false);
        Due.due("a spider", Due.inn(7, SPIDER).round(), false);
        Due.due("two rings, eight moments", Due.inn(8, TWO_RINGS).round(), false);
        Due.due("three and three, nine moments",
                Due.inn(6, "met 0 3;met 0 4;met 0 5;met 1 3;met 1 4;met 1 5;met 2 3;met 2 4;met 2 5").round(), false);
        Due.due("two and five, ten moments", Due.inn(7, "met 0 2;met 0 3;met 0 4;met 0 5;met 0 6;met 1 2;met 1 3;"
                + "met 1 4;met 1 5;met 1 6").round(), false);
    }

    private static void twiceOrBoth() {
        Due.says("TWICE of a GUEST: each whom it has MET is given to its first coming, to its second one, or to both, so "
                + "that with two GUESTS, APART, in its place all CAN be laid.");
        for (int guest = 0; guest < 4; guest++) {
            Due.due("of a ring " + guest, Due.inn(4, RING).twice(guest), true);
        }
        int[] spider = {1, 1, 1, 1, 0, 0, 0};
        for (int guest = 0; guest < 7; guest++) {
            Due.due("of a spider " + guest, Due.inn(7, SPIDER).twice(guest), spider[guest] == 1);
        }
        Due.due("one who has met none, all can", Due.inn(5, PATH).twice(4), true);
        Due.due("one alone where all can", Due.inn(9).twice(8), true);
        Due.due("one alone beside a ring", Due.inn(5, RING).twice(4), false);
        Due.due("of two rings", Due.inn(8, TWO_RINGS).twice(7), false);
        // Without guest 0 in both comings none of the ways leads to a laying.
        InnNight both = Due.inn(8, "met0 1;met0 2;met0 3;met0 4;met0 5;met0 6;met0 7;met1 6;met2 4;met2 5;met2 7;met3 4;"
                + "met3 5;met5 6");
        Due.due("one is given to both", both.twice(2), true);
        Due.due("a third coming would be needed",
                Due.inn(7, RING + ";met 3 4;met 4 5;met 5 6;met 6 3").twice(3), false);
    }

    private static void roomsAre(InnNight x, int... want) {
        for (int guest = 0; guest < want.length; guest++) {
            Due.due("room of " + guest, x.room(guest), want[guest]);
        }
    }

    private static void roomsAreTaken() {
        Due.says("a GUEST comes at the place of its first MOMENT and goes behind that of its last one");
        roomsAre(Due.inn(5, PATH), 0, 1, 0, 1, 0);
        roomsAre(Due.inn(3, "met 0 1;met 1 2"), 0, 1, 0);
        roomsAre(Due.inn(9), 0, 0, 0, 0, 0, 0, 0, 0, 0);
        roomsAre(Due.inn(5, "met 2 0;met 2 1;met 2 3;met 2 4"), 0, 0, 1, 0, 0);
    }

    private static void roomsOfOnePlace() {
        Due.says("GUESTS in the order in which they come, of one place by numbers, take the least ROOM (from 0 on) that "
                + "none has.");
        roomsAre(Due.inn(9, all("met", 9)), 0, 1, 2, 3, 4, 5, 6, 7, 8);
        // Moments 0 and 2, then 0 and 1, then 1 and 3: guest 1 takes what guest 2 has left.
        roomsAre(Due.inn(4, "met 0 1;met 0 2;met 1 3"), 0, 1, 1, 0);
        // Guests 0 to 2 leave 3 behind in room 3: those who come then fill 0, 1 and 2.
        roomsAre(Due.inn(7, "met0 1;met0 2;met0 3;met1 2;met1 3;met2 3;met3 4;met3 5;met3 6;met4 5;met4 6;met5 6"),
                0, 1, 2, 3, 0, 1, 2);
    }

    private static void roomsNeeded() {
        Due.says("How many ROOMS are needed. IllegalStateException.");
        Due.due("no guests", new InnNight().rooms(), 0);
        Due.due("one", Due.inn(1).rooms(), 1);
        Due.due("nine apart", Due.inn(9).rooms(), 1);
        Due.due("nine who met", Due.inn(9, all("met", 9)).rooms(), 9);
        Due.due("a row", Due.inn(5, PATH).rooms(), 2);
        InnNight ring = Due.inn(4, RING);
        Due.refuses("a ring", Due.NOT_LAID, () -> ring.rooms());
    }

    private static void whatObeys() {
        Due.says("ORDERS: a LAYING OBEYS, if for each pair that an ahead MEMORY RULES all MOMENTS of the first one are "
                + "ahead of all of the second one.");
        Due.due("no guests", new InnNight().obey(), 1);
        Due.due("no orders", Due.inn(9).obey(), 362880);
        Due.due("one order", Due.inn(9, "ahead 8 0").obey(), 181440);
        Due.due("all in one order", Due.inn(9, ALL_AHEAD).obey(), 1);
        Due.due("orders in a round", Due.inn(3, "ahead 0 1;ahead 1 2;ahead 2 0").obey(), 0);
        Due.due("an order overruled by met", Due.inn(3, "ahead 0 1;met 0 1").obey(), 2);
        Due.due("an order overruled by apart", Due.inn(3, "ahead 0 1;apart 0 1").obey(), 6);
        Due.due("an order overruled by the other way", Due.inn(2, "ahead 0 1;ahead 1 0").must(1, 0), 1);
        Due.due("an order within a row", Due.inn(5, PATH + ";ahead 4 0").obey(), 1);
        Due.due("an order that no laying has", Due.inn(5, PATH + ";ahead 0 2;ahead 4 2").obey(), 0);
        Due.due("a ring", Due.inn(5, RING + ";ahead 4 0").obey(), 0);
        InnNight x = Due.inn(3, "ahead 0 1");
        x.strike(0, true);
        Due.due("an order struck", x.obey(), 6);
    }

    private static void spans() {
        Due.says("SPAN of a GUEST: the least and the greatest place of its first MOMENT in all LAYINGS that OBEY; none "
                + "without one.");
        InnNight nine = Due.inn(9);
        InnNight ordered = Due.inn(9, ALL_AHEAD);
        for (int guest = 0; guest < 9; guest++) {
            Due.due("the least of " + guest, nine.span(guest, false), 0);
            Due.due("the greatest of " + guest, nine.span(guest, true), 8);
            Due.due("the least of all in order " + guest, ordered.span(guest, false), guest);
            Due.due("the greatest of all in order " + guest, ordered.span(guest, true), guest);
        }
        InnNight row = Due.inn(5, PATH);
        int[] least = {0, 0, 1, 0, 0};
        int[] greatest = {3, 2, 1, 2, 3};
        for (int guest = 0; guest < 5; guest++) {
            Due.due("the least in a row " + guest, row.span(guest, false), least[guest]);
            Due.due("the greatest in a row " + guest, row.span(guest, true), greatest[guest]);
        }
        // Five MOMENTS became four: what was worked out of the fifth one may not show.
        InnNight shorter = Due.inn(5);
        Due.due("all of five apart", shorter.obey(), 120);
        Due.tell(shorter, PATH + ";ahead 0 2");
        Due.due("the least of the last in a row", shorter.span(4, false), 3);
        Due.due("the greatest of the first in a row", shorter.span(0, true), 0);
        Due.due("none of a ring", Due.inn(4, RING).span(0, true), -1);
        Due.due("none obeys, the least", Due.inn(3, "ahead 0 1;ahead 1 2;ahead 2 0").span(0, false), -1);
        Due.due("none obeys, the greatest", Due.inn(3, "ahead 0 1;ahead 1 2;ahead 2 0").span(0, true), -1);
    }

    private static void musts() {
        Due.says("MUST, of two GUESTS who are APART (OPEN ones, too): 1 the first one is ahead in all LAYINGS that OBEY, "
                + "0 in none of them, 2 in some");
        InnNight x = Due.inn(5, "ahead 3 1;ahead 1 0;open 2 4;open 3 0");
        Due.due("an order", x.must(3, 1), 1);
        Due.due("the other way", x.must(1, 3), 0);
        Due.due("by two orders, open", x.must(3, 0), 1);
        Due.due("by two orders, the other way", x.must(0, 3), 0);
        Due.due("open, in some", x.must(2, 4), 2);
        Due.due("in some", x.must(2, 3), 2);
        InnNight row = Due.inn(5, PATH + ";ahead 2 0");
        Due.due("by the row", row.must(4, 1), 1);
        Due.due("by the row, the other way", row.must(1, 3), 0);
        Due.due("no orders", Due.inn(5, PATH).must(0, 4), 2);
    }

    private static void mustOfNone() {
        Due.says("2 in some; none without one, or if they are not APART.");
        InnNight x = Due.inn(3, "met 0 1;ahead 1 2");
        Due.due("met", x.must(0, 1), -1);
        Due.due("one with itself", x.must(2, 2), -1);
        Due.due("apart", x.must(2, 1), 0);
        Due.due("a ring", Due.inn(4, RING).must(0, 2), -1);
        Due.due("orders in a round", Due.inn(4, "ahead 0 1;ahead 1 2;ahead 2 0").must(3, 0), -1);
        Due.due("orders in a round, of these", Due.inn(3, "ahead 0 1;ahead 1 2;ahead 2 0").must(0, 1), -1);
    }

    private static void withoutOrders() {
        Due.says("How many LAYINGS OBEY.");
        Due.due("all", Due.inn(5, PATH).obey(), 2);
        Due.due("one", Due.inn(5, PATH + ";ahead 0 4").obey(), 1);
        Due.due("none", Due.inn(5, PATH + ";ahead 0 4;ahead 3 0").obey(), 0);
        Due.says("SPAN: the least (last false) or the greatest place; NONE.");
        InnNight x = Due.inn(3, "ahead 0 1");
        Due.due("the least", x.span(0, false), 0);
        Due.due("the greatest", x.span(0, true), 1);
        Due.due("the least of the second one", x.span(1, false), 1);
        Due.due("the greatest of the second one", x.span(1, true), 2);
        Due.due("the greatest of the third one", x.span(2, true), 2);
    }

    private static void listIs(InnNight x, int can, int noRing, int greatest, int pairs, int guests) {
        int[] want = {can, noRing, greatest, pairs, guests};
        for (int what = 0; what < 5; what++) {
            Due.due("listed " + what, x.listed(what), want[what]);
        }
    }

    private static void listGuests() {
        Due.says("A LIST: of 1 to 60 GUESTS of its own");
        InnNight x = new InnNight();
        int[] wrong = {0, 61, -1, 64, 100, MIN, MAX};
        for (int guests : wrong) {
            Due.refuses("list " + guests, Due.WRONG, () -> x.list(guests));
            listIs(x, 1, 1, 0, 0, 0);
        }
        Due.due("one", Due.list(x, 1), 0);
        listIs(x, 1, 1, 1, 0, 1);
        Due.due("sixty", Due.list(x, 60, 58, 59), 1);
        listIs(x, 1, 1, 2, 1, 60);
        Due.due("its own guests", x.sum(0), 0);
        Due.refuses("a guest of the list", Due.NO_SUCH, () -> x.pair(0, 1));
    }

    private static void meetingsOfAList() {
        Due.says("two bytes of the TAPE each tell a meeting, of those of these numbers (both below it, unlike).");
        InnNight x = new InnNight();
        Due.due("the greatest numbers of nine", Due.list(x, 9, 8, 7), 1);
        Due.tape(x, 9, 0);
        Due.refuses("the first is not below nine", Due.WRONG, () -> x.list(9));
        Due.tape(x, 0, 9);
        Due.refuses("the second is not below nine", Due.WRONG, () -> x.list(9));
        Due.tape(x, 8, 8);
        Due.refuses("alike", Due.WRONG, () -> x.list(9));
        Due.due("guests of the list of before", x.listed(4), 9);
        Due.due("the same numbers of ten", Due.list(x, 10, 9, 0), 1);
    }

    private static void listBytes() {
        Due.says("IllegalArgumentException: there cannot be so many, or a byte is none, or both of a meeting are one, or "
                + "one is left.");
        InnNight x = new InnNight();
        Due.due("the last numbers", Due.list(x, 60, 59, 0, 0, 59, 59, 58), 2);
        int[][] wrong = {{60, 0}, {0, 60}, {255, 0}, {0, 128}, {59, 59}, {0, 0}, {5}, {1, 2, 3}, {1, 2, 3, 3},
            {1, 2, 3, 60}, {1, 2, 60, 3}, {60}};
        for (int[] bytes : wrong) {
            Due.tape(x, bytes);
            Due.refuses("list of " + java.util.Arrays.toString(bytes), Due.WRONG, () -> x.list(60));
            listIs(x, 1, 1, 2, 2, 60);
        }
        Due.tape(x, 0, 1);
        Due.refuses("a meeting of one guest", Due.WRONG, () -> x.list(1));
        Due.due("an empty tape", Due.list(x, 2), 0);
        Due.due("a pair told three times", Due.list(x, 2, 0, 1, 1, 0, 0, 1), 1);
        int[] full = new int[400];
        for (int k = 0; k < 400; k++) {
            full[k] = k / 2 % 30 + (k % 2 == 0 ? 0 : 30);
        }
        Due.due("a full tape", Due.list(x, 60, full), 30);
    }

    private static void listInPlace() {
        Due.says("Uses the TAPE up: a LIST of so many GUESTS, in place of the one before: how many pairs have met.");
        InnNight x = Due.inn(2, "met 0 1");
        Due.due("a ring", Due.list(x, 4, 0, 1, 1, 2, 2, 3, 3, 0), 4);
        Due.due("the tape is used up", x.end(1), false);
        Due.due("in its place", x.list(4), 0);
        listIs(x, 1, 1, 1, 0, 4);
        Due.due("memories are left", x.sum(4), 1);
    }

    private static void listIsPlain() {
        Due.says("PLAIN as above: whether it CAN be laid; whether it has no RING; the greatest MOMENT, if it has no RING; "
                + "how many pairs have met.");
        InnNight x = Due.inn(4, RING + ";open 0 2");
        x.image();
        Due.list(x, 60, 0, 1, 1, 2, 0, 2, 3, 2, 3, 1, 3, 0, 59, 3);
        listIs(x, 1, 1, 4, 7, 60);
        Due.list(x, 60, 58, 59, 57, 58, 56, 57, 56, 59);
        listIs(x, 0, 0, -1, 4, 60);
        Due.list(x, 6, 0, 1, 1, 2, 0, 2, 0, 3, 1, 4, 2, 5);
        listIs(x, 0, 1, 3, 6, 6);
        Due.due("nothing of it is told of the guests", x.sum(4), 4);
        x.back();
        listIs(x, 1, 1, 0, 0, 0);
    }

    private static void listedAnother() {
        Due.says("3 pairs that have met, 4 GUESTS. NoSuchElementException: another what.");
        InnNight x = new InnNight();
        Due.list(x, 4, 0, 1);
        int[] none = {-1, 5, MIN, MAX};
        for (int what : none) {
            Due.refuses("listed " + what, Due.NO_WHAT, () -> x.listed(what));
            Due.refuses("listed " + what + " without a list", Due.NO_WHAT, () -> new InnNight().listed(what));
        }
    }

    private static void listWithoutARing() {
        Due.says("2 the greatest MOMENT (NONE, if it has a RING; 0 without a LIST)");
        listIs(new InnNight(), 1, 1, 0, 0, 0);
        InnNight x = new InnNight();
        Due.list(x, 3, 0, 1, 1, 2, 2, 0);
        listIs(x, 1, 1, 3, 3, 3);
        Due.list(x, 4, 0, 1, 1, 2, 2, 3, 3, 0);
        listIs(x, 0, 0, -1, 4, 4);
        Due.list(x, 4, 0, 1, 1, 2, 2, 3, 3, 0, 2, 0);
        listIs(x, 1, 1, 3, 5, 4);
        Due.list(x, 60, 50, 51, 50, 52, 50, 53, 51, 54, 52, 55, 53, 59);
        listIs(x, 0, 1, 2, 6, 60);
    }
}
