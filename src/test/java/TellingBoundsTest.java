/** The edges of what is told: the TAPE, GUESTS, texts, MEMORIES, STAYS, THE IMAGE. A test for each sentence. */
public final class TellingBoundsTest {
    private static final int MIN = Integer.MIN_VALUE;
    private static final int MAX = Integer.MAX_VALUE;
    private static final String RING = "met 0 1;met 1 2;met 2 3;met 0 3";

    public static void main(String[] args) {
        callsOfOneObject();
        guestsAndMemories();
        emptyTexts();
        numbers();
        guestsOfALine();
        wordsAndBlanks();
        linesOfAText();
        firstWrongByte();
        textsLength();
        forceAndRule();
        whatAPairIs();
        whatIsAQuarrel();
        orderOfQuarrels();
        exceptionToldFirst();
        throwingChangesNothing();
        throwingUsesTheTapeUp();
        noSuchGuest();
        noSuchMemory();
        newObject();
        tapeIsFull();
        bytesOfNumbers();
        tapeIsCut();
        tenthGuest();
        memoryUsesTheTapeUp();
        wrongBeforeTooMany();
        tooManyMemories();
        faultOfTheLatest();
        aboutEach();
        aboutAnother();
        struckOtherwise();
        pairOfOne();
        quarrelBehindTheLast();
        quarrelsToldBy();
        hoursOfAStay();
        staysInPlaceOfOthers();
        imageOfAll();
        backWithoutImage();
        imageIsOne();
        sumOfAnother();
        Due.close();
    }

    private static void callsOfOneObject() {
        Due.says("An object is used for at most 512 calls after it has been made");
        InnNight asked = Due.inn(9);
        for (int call = 10; call < 512; call++) {
            asked.sum(call % 7);
        }
        Due.due("call 512", asked.count(), 362880);
        // Two guests and a text that is told take six calls.
        InnNight changed = Due.inn(2, "met 0 1");
        for (int call = 7; call < 512; call++) {
            Due.due("call " + call, changed.strike(0, call % 2 == 1), true);
        }
        Due.due("call 512 behind changes", changed.pair(0, 1), 1);
    }

    private static void guestsAndMemories() {
        Due.says("GUESTS (at most 9, numbered from 0 on).");
        InnNight x = new InnNight();
        for (int number = 0; number < 9; number++) {
            Due.due("guest", x.guest(), number);
        }
        Due.says("MEMORIES (at most 40, numbered from 0 on)");
        Due.tell(x, "met 0 1;apart 2 3");
        Due.tell(x, "open 4 5");
        int[] words = {0, 1, 2};
        for (int memory = 0; memory < 3; memory++) {
            Due.due("word of " + memory, x.about(memory, 0), words[memory]);
        }
        Due.due("the rest of 40", Due.tell(x, times(37, "met7 8")), 37);
        Due.due("the last one", x.about(39, 1), 7);
        Due.due("memories", x.sum(1), 40);
    }

    private static String times(int many, String line) {
        StringBuilder text = new StringBuilder();
        for (int k = 0; k < many; k++) {
            text.append(k == 0 ? "" : ";").append(line);
        }
        return text.toString();
    }

    private static void right(int guests, String text, int lines) {
        InnNight x = Due.inn(guests);
        Due.due("memory of [" + text + "]", Due.tell(x, text), lines);
        Due.due("fault of [" + text + "]", x.fault(), -1);
        Due.due("memories of [" + text + "]", x.sum(1), lines);
    }

    private static void wrong(int guests, String text, int fault) {
        InnNight x = Due.inn(guests);
        Due.tape(x, text);
        Due.refuses("memory of [" + text + "]", Due.WRONG, () -> x.memory());
        Due.due("fault of [" + text + "]", x.fault(), fault);
        Due.due("memories of [" + text + "]", x.sum(1), 0);
    }

    private static void emptyTexts() {
        Due.says("A text that is empty, or blanks alone, has no LINE.");
        right(0, "", 0);
        right(9, "", 0);
        right(0, " ", 0);
        right(2, "                        ", 0);
        InnNight full = Due.inn(2, times(40, "met0 1"));
        Due.due("an empty text behind 40", Due.tell(full, ""), 0);
        Due.due("blanks behind 40", Due.tell(full, "  "), 0);
        wrong(2, " ; ", 1);
        wrong(2, "met 0 1; ;met 0 1", 9);
    }

    private static void numbers() {
        Due.says("NUMBER: 1 or 2 digits; of sure 1 to 99 (50 without it).");
        right(2, "met 0 1", 1);
        right(2, "met 00 01", 1);
        wrong(2, "met 000 1", 4);
        wrong(2, "met 0 001", 6);
        wrong(2, "met 0 1 by 001", 11);
        wrong(2, "met 0 1 sure 001", 13);
        wrong(2, "met 0 1 sure 0", 13);
        wrong(2, "met 0 1 sure 00", 13);
        wrong(2, "met 0 1 sure 100", 13);
        wrong(2, "met 0 1 sure 4294967297", 13);
        wrong(2, "met 4294967296 1", 4);
        int[] sure = {1, 1, 9, 10, 99, 50};
        String[] told = {" sure 1", " sure 01", " sure 9", " sure 10", " sure 99", ""};
        for (int k = 0; k < sure.length; k++) {
            Due.due("sure of [" + told[k] + "]", Due.inn(2, "met 0 1" + told[k]).about(0, 4), sure[k]);
        }
    }

    private static void guestsOfALine() {
        Due.says("G: a NUMBER that is a GUEST's; the two are unlike ones.");
        right(9, "met 8 0 by 8", 1);
        right(3, "met 0 1 by 2", 1);
        right(3, "met 0 1 by 0;met 0 1 by 1", 2);
        wrong(0, "met 0 1", 4);
        wrong(1, "met 0 1", 6);
        wrong(2, "met 2 0", 4);
        wrong(2, "met 0 2", 6);
        wrong(2, "met 0 1 by 2", 11);
        wrong(9, "met 9 0", 4);
        wrong(9, "met 0 99", 6);
        wrong(3, "met 2 2", 6);
        wrong(3, "apart 2 02", 8);
        wrong(3, "met a 1", 4);
    }

    private static void wordsAndBlanks() {
        Due.says("Words are as long as a to z go on; between all there may be blanks (32), also ahead and behind.");
        right(2, "met0 1by0sure5", 1);
        right(2, "met0 1;apart0 1;open0 1;ahead0 1", 4);
        right(2, "   met   0   1   by   0   sure   5   ;   met   0   1   ", 2);
        wrong(2, "metmet 0 1", 0);
        wrong(2, "meta 0 1", 0);
        wrong(2, "metz 0 1", 0);
        wrong(2, "met 0 1bysure5", 7);
        wrong(2, "met 0 1 bya 0", 8);
        wrong(2, "met 0 1 surez 5", 8);
        int[] noBlanks = {0, 9, 10, 13, 31, 33, 160, 255};
        for (int sign : noBlanks) {
            wrong(2, "met" + (char) sign + "0 1", 3);
            wrong(2, (char) sign + "met 0 1", 0);
            wrong(2, "met 0 1" + (char) sign, 7);
        }
        int[] noLetters = {'a' - 1, 'z' + 1, 'A', 'Z', 'm' + 128};
        for (int sign : noLetters) {
            wrong(2, "met" + (char) sign + " 0 1", 3);
        }
    }

    private static void linesOfAText() {
        Due.says("each a LINE of a text: LINE { ; LINE }. LINE: WORD G G [ by G ] [ sure NUMBER ]; "
                + "WORD: met, apart, open, ahead.");
        right(2, "met 0 1", 1);
        right(2, "met 0 1;met 0 1", 2);
        right(2, times(40, "met0 1"), 40);
        right(2, "met 0 1 by 0 sure 5", 1);
        wrong(2, "met 0 1 sure 5 by 0", 15);
        wrong(2, "met 0 1 by 0 by 0", 13);
        wrong(2, "met 0 1 sure 5 sure 5", 15);
        wrong(2, "met 0 1 met 0 1", 8);
        wrong(2, "met 0 1 0", 8);
        wrong(2, "met 0 1,met 0 1", 7);
        wrong(2, "met 0 1:met 0 1", 7);
        wrong(2, ";met 0 1", 0);
        wrong(2, "met 0 1;;met 0 1", 8);
        wrong(2, "met ; 0 1", 4);
        wrong(2, "by 0", 0);
        wrong(2, "sure 5", 0);
        wrong(2, "0 1 met", 0);
    }

    private static void firstWrongByte() {
        Due.says("The first wrong byte: the begin of the first thing that cannot stand there (a NUMBER of more "
                + "digits, or out of its bounds, or the G of before told twice; a word that is none)");
        wrong(2, "met 123 1", 4);
        wrong(2, "met 0 123", 6);
        wrong(2, "met   02   1", 6);
        wrong(2, "met 0 1 sure   00", 15);
        wrong(2, "met 1   01", 8);
        wrong(2, "   mett 0 1", 3);
        wrong(2, "met 0 1;   m", 11);
        wrong(2, "met 0 1;met 1 1;met 9 9", 14);
        wrong(2, "met 5 5;x", 4);
        wrong(2, "met 0 1   by by", 13);
        wrong(2, "met 0 1 by 5 sure 0", 11);
        wrong(2, "met 0 1 sure 0 by 5", 13);
        InnNight x = new InnNight();
        x.feed(MIN, 0, 0, 0, 0);
        Due.refuses("a byte of 128", Due.WRONG, () -> x.memory());
        Due.due("fault of a byte of 128", x.fault(), 0);
    }

    private static void textsLength() {
        Due.says("or the text's length, if more must come.");
        wrong(2, "met", 3);
        wrong(2, "met 0", 5);
        wrong(2, "met 01", 6);
        wrong(2, "met 0    ", 9);
        wrong(2, "met 0 1 by", 10);
        wrong(2, "met 0 1 by  ", 12);
        wrong(2, "met 0 1 sure", 12);
        wrong(2, "met 0 1 by 1 sure ", 18);
        wrong(2, "met 0 1;", 8);
        wrong(2, "met 0 1;  ", 10);
        wrong(2, times(57, "met0 1") + ";", 399);
        wrong(2, times(57, "met0 1") + "; ", 400);
    }

    private static void forceAndRule() {
        Due.says("A MEMORY is in force till it is struck.");
        InnNight x = Due.inn(2, "met 0 1 sure 1");
        Due.due("in force", x.about(0, 5), 1);
        x.strike(0, true);
        Due.due("struck", x.about(0, 5), 0);
        Due.due("in force, all", x.sum(2), 0);
        Due.says("of several the latest (it RULES the pair); APART without one.");
        Due.due("APART without one", x.pair(0, 1), 1);
        x.strike(0, false);
        Due.due("with it again", x.pair(0, 1), 0);
        Due.tell(x, "open 1 0 sure 1");
        Due.due("the latest of several", x.pair(0, 1), 2);
        Due.tell(x, "apart 0 1 sure 2;met 0 1 sure 1");
        Due.due("the surest, not the latest", x.pair(0, 1), 1);
        int[] rules = {0, 0, 1, 0};
        for (int memory = 0; memory < 4; memory++) {
            Due.due("whether it rules: " + memory, x.about(memory, 6), rules[memory]);
        }
        x.strike(2, true);
        Due.due("the latest of those in force", x.pair(0, 1), 0);
        Due.due("a struck one rules not", x.about(2, 6), 0);
        Due.due("the latest one rules", x.about(3, 6), 1);
        InnNight full = Due.inn(2, times(39, "met0 1") + ";ahead0 1");
        Due.due("the last of forty", full.pair(1, 0), 1);
        Due.due("the last of forty rules", full.about(39, 6), 1);
        full.strike(39, true);
        Due.due("the last but one", full.about(38, 6), 1);
    }

    private static void whatAPairIs() {
        Due.says("A pair of GUESTS is MET (met), APART (apart, ahead) or OPEN (open), as that MEMORY about it tells that "
                + "is in force and the surest");
        String[] words = {"met", "apart", "open", "ahead"};
        int[] pairs = {0, 1, 2, 1};
        for (int k = 0; k < 4; k++) {
            Due.due(words[k], Due.inn(2, words[k] + " 0 1").pair(0, 1), pairs[k]);
            Due.due(words[k] + " told of the second one", Due.inn(2, words[k] + " 1 0").pair(0, 1), pairs[k]);
            for (int other = 0; other < 4; other++) {
                String two = words[k] + " 0 1 sure 2;" + words[other] + " 1 0 sure 1";
                Due.due(two, Due.inn(2, two).pair(0, 1), pairs[k]);
                String even = words[other] + " 0 1 sure 50;" + words[k] + " 1 0";
                Due.due(even, Due.inn(2, even).pair(0, 1), pairs[k]);
            }
        }
        Due.due("99 is surer than 98", Due.inn(2, "met 0 1 sure 99;apart 0 1 sure 98").pair(0, 1), 0);
        Due.due("51 is surer than none told", Due.inn(2, "met 0 1 sure 51;apart 0 1").pair(0, 1), 0);
        Due.due("49 is less sure than none told", Due.inn(2, "apart 0 1;met 0 1 sure 49").pair(0, 1), 1);
    }

    private static int quarrelsOf(String text) {
        return Due.inn(3, text).sum(3);
    }

    private static void whatIsAQuarrel() {
        Due.says("QUARREL: two MEMORIES in force about one pair, the one met, the other one apart or ahead.");
        Due.due("met, apart", quarrelsOf("met 0 1;apart 0 1"), 1);
        Due.due("apart, met", quarrelsOf("apart 0 1;met 0 1"), 1);
        Due.due("met, ahead", quarrelsOf("met 0 1;ahead 0 1"), 1);
        Due.due("ahead the other way", quarrelsOf("ahead 1 0;met 0 1"), 1);
        Due.due("of unlike sureness", quarrelsOf("met 0 1 sure 99;apart 0 1 sure 1"), 1);
        Due.due("met twice", quarrelsOf("met 0 1;met 1 0"), 0);
        Due.due("apart, ahead", quarrelsOf("apart 0 1;ahead 0 1"), 0);
        Due.due("ahead both ways", quarrelsOf("ahead 0 1;ahead 1 0"), 0);
        Due.due("open quarrels with none", quarrelsOf("open 0 1;met 1 2;apart 0 2;open 1 2;open 0 2"), 0);
        Due.due("two pairs", quarrelsOf("met 0 1;apart 0 2;apart 1 2;ahead 2 1"), 0);
        InnNight x = Due.inn(2, "met 0 1;apart 0 1");
        x.strike(0, true);
        Due.due("the first one struck", x.sum(3), 0);
        x.strike(0, false);
        x.strike(1, true);
        Due.due("the second one struck", x.sum(3), 0);
    }

    private static void orderOfQuarrels() {
        Due.says("QUARRELS by the lesser number, then the greater one.");
        InnNight x = Due.inn(3, "met 0 1;met 1 2;apart 2 1;ahead 0 1;apart 1 0");
        int[] want = {3, 4, 42, -1};
        for (int n = 0; n < want.length; n++) {
            Due.due("quarrel " + n, x.quarrel(n), want[n]);
        }
    }

    private static void exceptionToldFirst() {
        Due.says("Of several exceptions the one told first is thrown");
        InnNight ring = Due.inn(4, RING);
        Due.refuses("about neither", Due.NO_SUCH, () -> ring.about(4, 7));
        Due.refuses("stays", Due.NO_SUCH, () -> ring.stays(4, false));
        Due.refuses("node", Due.NOT_LAID, () -> ring.node(0, 4));
        Due.refuses("between", Due.NO_SUCH, () -> ring.between(0, 1, 4) ? 1 : 0);
        Due.refuses("room", Due.NO_SUCH, () -> ring.room(-1));
        Due.refuses("stay", Due.NO_SUCH, () -> stay(ring, 4, 1, 0));
        Due.tape(ring, times(41, "met0 1") + ";");
        Due.refuses("memory", Due.WRONG, () -> ring.memory());
    }

    private static long stay(InnNight x, int guest, int from, int till) {
        x.stay(guest, from, till);
        return 0L;
    }

    private static void throwingChangesNothing() {
        Due.says("a call that throws changes nothing but the TAPE, where it is used up, and fault(), where a text is "
                + "read (also by one that is refused).");
        InnNight x = Due.inn(9, "met 0 1;apart 1 2 by 3");
        x.stay(0, 5, 6);
        x.stay(1, 7, 8);
        Due.list(x, 5, 0, 1, 1, 2);
        x.feed(0x6d000000, 0, 0, 0, 0);
        Due.refuses("guest", Due.TOO_MANY, () -> x.guest());
        Due.refuses("stay", Due.WRONG, () -> stay(x, 0, 9, 8));
        Due.refuses("stay of none", Due.NO_SUCH, () -> stay(x, 9, 0, 1));
        Due.refuses("strike", Due.NO_SUCH, () -> x.strike(2, true) ? 1 : 0);
        Due.refuses("about", Due.NO_WHAT, () -> x.about(0, 7));
        Due.due("fault as it was", x.fault(), -1);
        Due.due("the tape as it was", x.end(20), true);
        Due.refuses("memory", Due.WRONG, () -> x.memory());
        Due.due("fault of a refused text", x.fault(), 0);
        x.feed(0x02020000, 0, 0, 0, 0);
        Due.refuses("list", Due.WRONG, () -> x.list(5));
        Due.due("fault as it was", x.fault(), 0);
        Due.tape(x, times(39, "met0 1"));
        Due.refuses("too many", Due.TOO_MANY, () -> x.memory());
        Due.due("fault of a right text that is refused", x.fault(), -1);
        int[] sums = {9, 2, 2, 0, 1, 35};
        for (int what = 0; what < sums.length; what++) {
            Due.due("sum " + what, x.sum(what), sums[what]);
        }
        Due.due("stays as they were", x.judge(0), 1);
        Due.due("pairs of the list", x.listed(3), 2);
        Due.due("guests of the list", x.listed(4), 5);
    }

    private static void throwingUsesTheTapeUp() {
        Due.says("a call that throws changes nothing but the TAPE, where it is used up");
        InnNight x = Due.inn(2);
        x.feed(0, 0, 0, 0, 0);
        Due.refuses("memory", Due.WRONG, () -> x.memory());
        Due.due("a byte is left by a wrong text", x.end(1), false);
        Due.tape(x, times(41, "met0 1"));
        Due.refuses("memory", Due.TOO_MANY, () -> x.memory());
        Due.due("a byte is left by too many", x.end(1), false);
        int[] lists = {0, 61, -1, 1};
        for (int guests : lists) {
            x.feed(0, 0, 0, 0, 0);
            Due.refuses("list " + guests, Due.WRONG, () -> x.list(guests));
            Due.due("a byte is left by list " + guests, x.end(1), false);
        }
    }

    private static long askGuest(InnNight x, int call, int guest) {
        switch (call) {
            case 0: return x.pair(guest, 0);
            case 1: return x.pair(0, guest);
            case 2: return x.quarrels(guest);
            case 3: return x.stays(guest, true);
            case 4: return x.between(guest, 0, 1) ? 1 : 0;
            case 5: return x.between(0, guest, 1) ? 1 : 0;
            case 6: return x.between(0, 1, guest) ? 1 : 0;
            case 7: return stay(x, guest, 0, 1);
            case 8: return x.twice(guest) ? 1 : 0;
            case 9: return x.room(guest);
            case 10: return x.span(guest, false);
            case 11: return x.must(guest, 0);
            case 12: return x.must(0, guest);
            default: return x.pair(guest, guest);
        }
    }

    private static void noSuchGuest() {
        Due.says("IndexOutOfBoundsException: there is no such GUEST, MEMORY.");
        InnNight two = Due.inn(2);
        InnNight nine = Due.inn(9);
        InnNight gone = Due.inn(2);
        gone.image();
        gone.guest();
        gone.back();
        for (int call = 0; call < 14; call++) {
            int asked = call;
            int[] none = {-1, 9, 10, 31, 32, 64, MIN, MAX};
            for (int guest : none) {
                Due.refuses("call " + call + " of " + guest, Due.NO_SUCH, () -> askGuest(nine, asked, guest));
                Due.refuses("call " + call + " of " + guest, Due.NO_SUCH, () -> askGuest(two, asked, guest));
            }
            Due.refuses("call " + call + " of the third", Due.NO_SUCH, () -> askGuest(two, asked, 2));
            Due.refuses("call " + call + " of one gone", Due.NO_SUCH, () -> askGuest(gone, asked, 2));
            Due.refuses("call " + call + " of none at all", Due.NO_SUCH, () -> askGuest(new InnNight(), asked, 0));
            Due.due("call " + call + " of the last", askGuest(nine, asked, 8) >= -1, true);
            Due.due("call " + call + " of the first", askGuest(nine, asked, 0) >= -1, true);
        }
    }

    private static void noSuchMemory() {
        Due.says("IndexOutOfBoundsException: there is no such GUEST, MEMORY.");
        InnNight full = Due.inn(2, times(40, "met0 1"));
        InnNight gone = Due.inn(2, "met 0 1");
        gone.image();
        Due.tell(gone, "met 0 1");
        gone.back();
        int[] none = {-1, 40, 41, 63, 64, MIN, MAX};
        for (int memory : none) {
            Due.refuses("about " + memory, Due.NO_SUCH, () -> full.about(memory, 0));
            Due.refuses("strike " + memory, Due.NO_SUCH, () -> full.strike(memory, true) ? 1 : 0);
            Due.refuses("strike not " + memory, Due.NO_SUCH, () -> full.strike(memory, false) ? 1 : 0);
        }
        Due.refuses("about one gone", Due.NO_SUCH, () -> gone.about(1, 0));
        Due.refuses("strike one gone", Due.NO_SUCH, () -> gone.strike(1, true) ? 1 : 0);
        Due.refuses("about none at all", Due.NO_SUCH, () -> new InnNight().about(0, 0));
        Due.due("strike the last", full.strike(39, true), true);
        Due.due("strike the first", full.strike(0, true), true);
        Due.due("in force", full.sum(2), 38);
    }

    private static void newObject() {
        Due.says("No GUESTS, MEMORIES, STAYS, LIST.");
        InnNight x = new InnNight();
        for (int what = 0; what < 7; what++) {
            Due.due("sum " + what, x.sum(what), 0);
        }
        int[] listed = {1, 1, 0, 0, 0};
        for (int what = 0; what < 5; what++) {
            Due.due("listed " + what, x.listed(what), listed[what]);
        }
        x.guest();
        x.guest();
        for (int what = 0; what < 4; what++) {
            Due.due("judge " + what, x.judge(what), 0);
        }
        Due.due("a byte of the tape", new InnNight().end(1), false);
    }

    private static void tapeIsFull() {
        Due.says("how many it has; NONE, and none come, if it would have more than 400.");
        InnNight x = new InnNight();
        for (int n = 1; n <= 20; n++) {
            Due.due("feed " + n, x.feed(0x20202020, 0x20202020, 0x20202020, 0x20202020, 0x20202020), 20 * n);
        }
        Due.due("feed beyond", x.feed(-1, -1, -1, -1, -1), -1);
        Due.due("none came", x.end(401), false);
        Due.due("all are blanks", x.memory(), 0);
        for (int n = 1; n <= 20; n++) {
            x.feed(0x20202020, 0x20202020, 0x20202020, 0x20202020, 0x20202020);
        }
        x.end(381);
        Due.due("feed to 401", x.feed(-1, -1, -1, -1, -1), -1);
        Due.due("none of 401 came", x.end(382), false);
        x.end(380);
        Due.due("feed to 400", x.feed(0x20202020, 0x20202020, 0x20202020, 0x20202020, 0x20202020), 400);
        Due.due("all are blanks", x.memory(), 0);
    }

    private static void bytesOfNumbers() {
        Due.says("Twenty bytes come behind the TAPE, of each number the highest first");
        InnNight x = Due.inn(2);
        x.feed(0x6d657420, 0x3020313b, 0x61706172, 0x74203020, 0x31202020);
        Due.due("met 0 1;apart 0 1", x.memory(), 2);
        Due.due("the second one", x.about(1, 0), 1);
        x.feed(0x6f70656e, 0x20302031, 0x20737572, 0x65203920, 0x20202020);
        x.end(15);
        x.feed(0x393b6f70, 0x656e3120, 0x30202020, 0x20202020, 0x20202020);
        Due.due("behind the tape of before", x.memory(), 2);
        Due.due("a number of two feeds", x.about(2, 4), 99);
        x.feed(MIN, 0, 0, 0, 0x7f);
        x.end(4);
        Due.refuses("bytes are 0 to 255", Due.WRONG, () -> x.list(60));
        x.feed(0x3b3a0000, -1, -1, -1, -1);
        x.end(2);
        Due.due("bytes 59 and 58", x.list(60), 1);
    }

    private static void tapeIsCut() {
        Due.says("The TAPE has its first n bytes alone: true; false, and nothing happens, if it has fewer, or n is "
                + "below 0.");
        InnNight x = Due.inn(2);
        Due.due("end(0) of an empty tape", x.end(0), true);
        Due.due("end(1) of an empty tape", x.end(1), false);
        x.feed(0x6d657420, 0x30203178, 0, 0, 0);
        int[] none = {21, 400, 401, -1, MIN, MAX};
        for (int n : none) {
            Due.due("end " + n, x.end(n), false);
        }
        Due.due("all are there", x.end(20), true);
        Due.due("the first seven", x.end(7), true);
        Due.due("the eighth is gone", x.end(8), false);
        Due.due("met 0 1", x.memory(), 1);
    }

    private static void tenthGuest() {
        Due.says("A GUEST: its number. UnsupportedOperationException: there are 9.");
        InnNight x = Due.inn(8);
        Due.due("the ninth", x.guest(), 8);
        Due.refuses("the tenth", Due.TOO_MANY, () -> x.guest());
        Due.refuses("the tenth again", Due.TOO_MANY, () -> x.guest());
        Due.due("guests", x.sum(0), 9);
    }

    private static void memoryUsesTheTapeUp() {
        Due.says("Uses the TAPE up: MEMORIES: how many.");
        InnNight x = Due.inn(2);
        Due.due("of an empty tape", x.memory(), 0);
        Due.due("three", Due.tell(x, "met 0 1;open 0 1;met 0 1"), 3);
        Due.due("a byte is left", x.end(1), false);
        Due.due("nothing more", x.memory(), 0);
        Due.due("in all", x.sum(1), 3);
    }

    private static void wrongBeforeTooMany() {
        Due.says("IllegalArgumentException: the text is wrong; UnsupportedOperationException: there would be more than "
                + "40. (Nothing of it comes then.)");
        InnNight x = Due.inn(2);
        Due.tape(x, times(41, "met0 1") + ";met");
        Due.refuses("wrong behind too many", Due.WRONG, () -> x.memory());
        Due.due("its fault", x.fault(), 290);
        Due.tape(x, "met 0 1;met 0 1;met 0 0");
        Due.refuses("wrong behind two", Due.WRONG, () -> x.memory());
        Due.due("none came", x.sum(1), 0);
    }

    private static void tooManyMemories() {
        Due.says("UnsupportedOperationException: there would be more than 40. (Nothing of it comes then.)");
        InnNight x = Due.inn(2, times(38, "open0 1"));
        Due.tape(x, times(3, "met0 1"));
        Due.refuses("41", Due.TOO_MANY, () -> x.memory());
        Due.due("38 are left", x.sum(1), 38);
        Due.due("none came", x.pair(0, 1), 2);
        Due.due("40", Due.tell(x, times(2, "met0 1")), 2);
        Due.due("they came", x.pair(0, 1), 0);
        Due.tape(x, "met0 1");
        Due.refuses("one more", Due.TOO_MANY, () -> x.memory());
        x.strike(5, true);
        Due.tape(x, "met0 1");
        Due.refuses("struck ones count", Due.TOO_MANY, () -> x.memory());
        InnNight y = Due.inn(2);
        Due.tape(y, times(57, "met0 1"));
        Due.refuses("57 at once", Due.TOO_MANY, () -> y.memory());
        Due.due("none of 57 came", y.sum(1), 0);
    }

    private static void faultOfTheLatest() {
        Due.says("The first wrong byte of the latest text that was read; NONE without one, and ahead of any.");
        InnNight x = Due.inn(2);
        Due.due("ahead of any", x.fault(), -1);
        Due.tape(x, "met 0 0");
        Due.due("not read as yet", x.fault(), -1);
        Due.refuses("a wrong text", Due.WRONG, () -> x.memory());
        Due.due("of a wrong text", x.fault(), 6);
        Due.due("it stays", x.fault(), 6);
        Due.tape(x, "m");
        Due.refuses("a later one", Due.WRONG, () -> x.memory());
        Due.due("of the latest text", x.fault(), 0);
        Due.list(x, 2, 0, 1);
        Due.due("a list is no text", x.fault(), 0);
        Due.tell(x, "met 0 1");
        Due.due("without one", x.fault(), -1);
    }

    private static void aboutEach() {
        Due.says("Of a MEMORY what 0 its WORD (0 met, 1 apart, 2 open, 3 ahead), 1, 2 the GUESTS as told, 3 by whom "
                + "(NONE), 4 how sure, 5 1 if it is in force, 6 1 if it RULES its pair.");
        InnNight x = Due.inn(9, "met 8 0;apart 0 8 by 0 sure 1;open 7 6 by 8;ahead 1 0 sure 99");
        x.strike(0, true);
        int[][] want = {{0, 8, 0, -1, 50, 0, 0}, {1, 0, 8, 0, 1, 1, 1}, {2, 7, 6, 8, 50, 1, 1}, {3, 1, 0, -1, 99, 1, 1}};
        for (int memory = 0; memory < 4; memory++) {
            for (int what = 0; what < 7; what++) {
                Due.due("about " + memory + " " + what, x.about(memory, what), want[memory][what]);
            }
        }
    }

    private static void aboutAnother() {
        Due.says("6 1 if it RULES its pair. NoSuchElementException: another what.");
        InnNight x = Due.inn(2, "met 0 1");
        int[] none = {-1, 7, MIN, MAX};
        for (int what : none) {
            Due.refuses("about 0 " + what, Due.NO_WHAT, () -> x.about(0, what));
        }
    }

    private static void struckOtherwise() {
        Due.says("A MEMORY is struck, or in force again: whether it was otherwise.");
        InnNight x = Due.inn(2, "met 0 1;apart 0 1");
        Due.due("in force already", x.strike(0, false), false);
        Due.due("struck", x.strike(0, true), true);
        Due.due("struck already", x.strike(0, true), false);
        Due.due("the other one is in force", x.about(1, 5), 1);
        Due.due("in force again", x.strike(0, false), true);
        Due.due("both in force", x.sum(2), 2);
    }

    private static void pairOfOne() {
        Due.says("A pair: 0 MET, 1 APART, 2 OPEN; NONE of a GUEST with itself.");
        InnNight x = Due.inn(9, "met 0 8;open 7 8;apart 6 8;ahead 5 8");
        int[] want = {0, 1, 1, 1, 1, 1, 1, 2, -1};
        for (int guest = 0; guest < 9; guest++) {
            Due.due("pair 8 " + guest, x.pair(8, guest), want[guest]);
            Due.due("pair " + guest + " 8", x.pair(guest, 8), want[guest]);
        }
    }

    private static void quarrelBehindTheLast() {
        Due.says("QUARREL n (from 0 on): 40 times the lesser MEMORY and the greater one; NONE if there is none such.");
        InnNight none = new InnNight();
        Due.due("of no memories", none.quarrel(0), -1);
        InnNight one = Due.inn(2, "met 0 1;apart 0 1");
        Due.due("quarrel 0", one.quarrel(0), 1);
        InnNight x = Due.inn(2, times(20, "met0 1"));
        Due.tell(x, times(20, "apart0 1"));
        Due.due("the first", x.quarrel(0), 20);
        Due.due("the last of the first memory", x.quarrel(19), 39);
        Due.due("the first of the second memory", x.quarrel(20), 60);
        Due.due("the last", x.quarrel(399), 799);
        int[] behind = {400, -1, MIN, MAX};
        for (int n : behind) {
            Due.due("quarrel " + n, x.quarrel(n), -1);
        }
        Due.due("quarrels", x.sum(3), 400);
    }

    private static void quarrelsToldBy() {
        Due.says("In how many QUARRELS MEMORIES that a GUEST told (by) are.");
        InnNight x = Due.inn(9, "met 0 1 by 8;apart 0 1 by 8;ahead 0 1 by 0;met 2 3 by 8;open 0 1 by 1;met 0 1");
        Due.due("both told by one count once", x.quarrels(8), 3);
        Due.due("with one told by none", x.quarrels(0), 2);
        Due.due("open ones are in none", x.quarrels(1), 0);
        Due.due("one who told none", x.quarrels(7), 0);
        x.strike(0, true);
        Due.due("one struck", x.quarrels(8), 1);
    }

    private static void hoursOfAStay() {
        Due.says("IllegalArgumentException: not 0 to from to till to 99.");
        InnNight x = Due.inn(2, "met 0 1");
        int[][] wrong = {{-1, 0}, {-1, -1}, {0, 100}, {99, 100}, {100, 100}, {1, 0}, {99, 98}, {MIN, MAX}, {MIN, 5},
            {5, MAX}, {5, MIN}, {MAX, 5}};
        for (int[] hours : wrong) {
            Due.refuses("stay " + hours[0] + " " + hours[1], Due.WRONG, () -> stay(x, 0, hours[0], hours[1]));
        }
        x.stay(1, 0, 0);
        Due.due("none of these was told", x.judge(0), 0);
        int[][] right = {{0, 0}, {0, 99}, {0, 1}};
        for (int[] hours : right) {
            x.stay(0, hours[0], hours[1]);
            Due.due("with hour 0", x.judge(0), 0);
        }
        x.stay(0, 99, 99);
        Due.due("without hour 0", x.judge(0), 1);
        x.stay(1, 98, 99);
        Due.due("with hour 99", x.judge(0), 0);
    }

    private static void staysInPlaceOfOthers() {
        Due.says("STAYS of a GUEST (in place of those told before).");
        InnNight x = Due.inn(2, "met 0 1");
        x.stay(0, 10, 20);
        x.stay(1, 30, 40);
        Due.due("no hour", x.judge(0), 1);
        x.stay(0, 35, 35);
        Due.due("an hour", x.judge(0), 0);
        x.stay(0, 10, 20);
        Due.due("no hour again", x.judge(0), 1);
        Due.refuses("a wrong one", Due.WRONG, () -> stay(x, 0, 35, 34));
        Due.due("those told before are left", x.judge(0), 1);
    }

    private static void imageOfAll() {
        Due.says("THE IMAGE (one) of all may be kept, and gone back to (but for the TAPE, fault() and THE IMAGE "
                + "itself).");
        InnNight x = Due.inn(4, "met 0 1;open 2 3");
        x.stay(0, 1, 2);
        x.stay(1, 3, 4);
        Due.list(x, 4, 0, 1);
        x.strike(1, true);
        x.image();
        x.guest();
        Due.tell(x, "met 2 4;apart 0 1");
        x.strike(1, false);
        x.stay(0, 0, 99);
        x.stay(4, 0, 0);
        Due.list(x, 60, 0, 1, 1, 2);
        Due.tape(x, "met 0 1;");
        Due.refuses("a wrong text", Due.WRONG, () -> x.memory());
        x.feed(0, 0, 0, 0, 0);
        x.end(13);
        Due.due("back", x.back(), true);
        int[] sums = {4, 2, 1, 0, 1, 5, 4};
        for (int what = 0; what < sums.length; what++) {
            Due.due("sum " + what, x.sum(what), sums[what]);
        }
        Due.due("struck as it was", x.about(1, 5), 0);
        Due.due("stays", x.judge(0), 1);
        Due.due("the list's guests", x.listed(4), 4);
        Due.due("the list's pairs", x.listed(3), 1);
        Due.due("not the fault", x.fault(), 8);
        Due.due("not the tape", x.end(14), false);
        Due.due("not the tape's bytes", x.end(13), true);
        x.guest();
        x.stay(1, 0, 99);
        Due.due("the image is left", x.back(), true);
        Due.due("guests", x.sum(0), 4);
        Due.due("stays again", x.judge(0), 1);
    }

    private static void backWithoutImage() {
        Due.says("One goes back to THE IMAGE: true; false, and nothing happens, if none was kept.");
        InnNight x = Due.inn(3, "met 0 1");
        Due.list(x, 4, 0, 1);
        Due.due("none kept", x.back(), false);
        Due.due("guests", x.sum(0), 3);
        Due.due("memories", x.sum(1), 1);
        Due.due("the list", x.listed(4), 4);
        Due.due("none kept again", x.back(), false);
        InnNight empty = new InnNight();
        empty.image();
        empty.guest();
        Due.due("to an image of nothing", empty.back(), true);
        Due.due("nothing", empty.sum(0), 0);
    }

    private static void imageIsOne() {
        Due.says("THE IMAGE is kept.");
        InnNight x = Due.inn(1);
        x.image();
        x.guest();
        x.image();
        x.guest();
        x.back();
        Due.due("the later one alone", x.sum(0), 2);
        x.back();
        Due.due("it does not wear off", x.sum(0), 2);
    }

    private static void sumOfAnother() {
        Due.says("0 GUESTS, 1 MEMORIES, 2 in force, 3 QUARRELS, 4 pairs that are MET, 5 APART, 6 NODES (0, if it cannot "
                + "be laid). NONE for another what.");
        InnNight x = Due.inn(9, "met 0 1;apart 0 1;met 7 8;open 5 6");
        x.strike(3, true);
        int[] sums = {9, 4, 3, 1, 1, 35, 9};
        for (int what = 0; what < sums.length; what++) {
            Due.due("sum " + what, x.sum(what), sums[what]);
        }
        int[] none = {-1, 7, MIN, MAX};
        for (int what : none) {
            Due.due("sum " + what, x.sum(what), -1);
        }
        Due.due("nodes of a ring", Due.inn(4, RING).sum(6), 0);
        Due.due("nodes of no guests", new InnNight().sum(6), 0);
    }
}
