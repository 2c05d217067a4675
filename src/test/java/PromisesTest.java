import java.util.NoSuchElementException;

/** Each promise of the document by hand: ordinary calls, the edges it names, and wrong ones. */
public final class PromisesTest {
    private static final Class<IndexOutOfBoundsException> NO_SUCH = IndexOutOfBoundsException.class;
    private static final Class<IllegalStateException> NOT_LAID = IllegalStateException.class;
    private static final Class<NoSuchElementException> NO_WHAT = NoSuchElementException.class;

    private static final String RING = "met 0 1;met 1 2;met 2 3;met 0 3";
    // A guest in the middle, three whom it met, and behind each of these one more.
    private static final String SPIDER = "met 0 1;met 0 2;met 0 3;met 1 4;met 2 5;met 3 6";
    private static final String PATH = "met 0 1;met 1 2;met 2 3;met 3 4";

    public static void main(String[] args) {
        promise1();
        promises2and3();
        promise4();
        promises5to7();
        promise8();
        promise9();
        promises10and11();
        promises12to14();
        promises15and16();
        promises17to20();
        promise21();
        promise22();
        promise23();
        promise24();
        promise25();
        promise26();
        promise27();
        promises28and29();
        promise30();
        promise31();
        changes();
        promises32to35();
        promises36and37();
        promises38to40();
        promises41and42();
        promises43and44();
        promise45();
        Due.close();
    }

    private static void promise1() {
        InnNight x = new InnNight();
        Due.due("a new sum(0)", x.sum(0), 0);
        Due.due("a new sum(1)", x.sum(1), 0);
        Due.due("a new listed(4)", x.listed(4), 0);
        Due.due("a new fault", x.fault(), -1);
        Due.due("a new tape", x.end(1), false);
        Due.due("NONE", InnNight.NONE, -1);
        x.guest();
        x.guest();
        Due.due("no stays", x.judge(1), 0);
    }

    private static void promises2and3() {
        InnNight x = new InnNight();
        for (int n = 1; n <= 20; n++) {
            Due.due("feed " + n, x.feed(1, 2, 3, 4, 5), 20 * n);
        }
        Due.due("feed beyond 400", x.feed(1, 2, 3, 4, 5), -1);
        Due.due("end(401)", x.end(401), false);
        Due.due("end(-1)", x.end(-1), false);
        Due.due("end(400)", x.end(400), true);
        Due.due("end(381)", x.end(381), true);
        Due.due("feed beyond 400 by one", x.feed(1, 2, 3, 4, 5), -1);
        Due.due("end(382) of 381", x.end(382), false);
        Due.due("end(380)", x.end(380), true);
        Due.due("feed to 400", x.feed(1, 2, 3, 4, 5), 400);
        Due.due("end(0)", x.end(0), true);
        Due.due("end(0) again", x.end(0), true);
        Due.due("end(min)", x.end(Integer.MIN_VALUE), false);
        Due.due("feed", x.feed(0x01020304, 0x05060708, 0x090a0b0c, 0x0d0e0f10, 0x11121300), 20);
        Due.due("the highest byte first", x.list(20), 10);
        Due.due("end(1) of a tape used up", x.end(1), false);
        Due.due("feed of high bytes", x.feed(-1, -1, -1, -1, -1), 20);
        Due.refuses("bytes are 0 to 255", IllegalArgumentException.class, () -> x.list(60));
        x.feed(0x00010203, 0, 0, 0, 0);
        x.end(2);
        Due.due("bytes cut off are gone", x.feed(0x02030000, 0, 0, 0, 0), 22);
        x.end(4);
        Due.due("behind the cut", x.list(4), 2);
    }

    private static void promise4() {
        InnNight x = new InnNight();
        for (int n = 0; n < 9; n++) {
            Due.due("guest " + n, x.guest(), n);
        }
        Due.refuses("the tenth guest", UnsupportedOperationException.class, () -> x.guest());
        Due.due("nine stay nine", x.sum(0), 9);
    }

    private static void promises5to7() {
        InnNight x = Due.inn(3, "met 0 1 by 2 sure 9;apart 2 1");
        Due.due("about word", x.about(0, 0), 0);
        Due.due("about first", x.about(1, 1), 2);
        Due.due("about second", x.about(1, 2), 1);
        Due.due("about by", x.about(0, 3), 2);
        Due.due("about by none", x.about(1, 3), -1);
        Due.due("about sure", x.about(0, 4), 9);
        Due.refuses("about(0, 7)", NO_WHAT, () -> x.about(0, 7));
        Due.refuses("about(0, -1)", NO_WHAT, () -> x.about(0, -1));
        Due.refuses("about(2, 7)", NO_SUCH, () -> x.about(2, 7));
        Due.refuses("about(-1, 0)", NO_SUCH, () -> x.about(-1, 0));
        Due.due("a surer one later", Due.tell(x, "open 1 0 sure 10"), 1);
        Due.due("the surer one rules", x.about(2, 6), 1);
        Due.due("the other one does not", x.about(0, 6), 0);
        Due.due("an even one later", Due.tell(x, "apart 0 1 sure 10"), 1);
        Due.due("the later one rules", x.about(3, 6), 1);
        Due.due("the earlier one does not", x.about(2, 6), 0);
        x.strike(3, true);
        Due.due("a struck one rules no more", x.about(3, 6), 0);
        Due.due("the earlier one rules again", x.about(2, 6), 1);
    }

    private static void promise8() {
        InnNight x = Due.inn(2, "met 0 1");
        Due.due("in force already", x.strike(0, false), false);
        Due.due("struck", x.strike(0, true), true);
        Due.due("struck already", x.strike(0, true), false);
        Due.due("about struck", x.about(0, 5), 0);
        Due.due("pair then", x.pair(0, 1), 1);
        Due.due("in force again", x.strike(0, false), true);
        Due.due("pair again", x.pair(0, 1), 0);
        Due.refuses("strike(1)", NO_SUCH, () -> x.strike(1, true) ? 1 : 0);
        Due.refuses("strike(-1)", NO_SUCH, () -> x.strike(-1, true) ? 1 : 0);
    }

    private static void promise9() {
        InnNight x = Due.inn(4, "met 0 1;apart 0 2;open 1 2;ahead 3 0");
        Due.due("MET", x.pair(1, 0), 0);
        Due.due("APART", x.pair(0, 2), 1);
        Due.due("OPEN", x.pair(2, 1), 2);
        Due.due("ahead is APART", x.pair(0, 3), 1);
        Due.due("APART without one", x.pair(2, 3), 1);
        Due.due("with itself", x.pair(3, 3), -1);
        Due.refuses("pair(0, 4)", NO_SUCH, () -> x.pair(0, 4));
        Due.refuses("pair(-1, 0)", NO_SUCH, () -> x.pair(-1, 0));
        Due.refuses("pair(4, 4)", NO_SUCH, () -> x.pair(4, 4));
    }

    private static void promises10and11() {
        InnNight x = Due.inn(3, "met 0 1 by 0;apart 1 0 by 0;ahead 1 0 by 2;open 0 1 by 1;met 1 0;met 1 2 by 1");
        Due.due("quarrel 0", x.quarrel(0), 1);
        Due.due("quarrel 1", x.quarrel(1), 2);
        Due.due("quarrel 2", x.quarrel(2), 44);
        Due.due("quarrel 3", x.quarrel(3), 84);
        Due.due("quarrel 4", x.quarrel(4), -1);
        Due.due("quarrel -1", x.quarrel(-1), -1);
        Due.due("all quarrels", x.sum(3), 4);
        Due.due("one told both", x.quarrels(0), 3);
        Due.due("an open one quarrels not", x.quarrels(1), 0);
        Due.due("quarrels(2)", x.quarrels(2), 2);
        Due.refuses("quarrels(3)", NO_SUCH, () -> x.quarrels(3));
        Due.refuses("quarrels(-1)", NO_SUCH, () -> x.quarrels(-1));
        x.strike(0, true);
        Due.due("struck ones quarrel not", x.quarrel(0), 44);
        Due.due("quarrels(0) then", x.quarrels(0), 1);
    }

    private static void promises12to14() {
        InnNight x = Due.inn(5, PATH);
        Due.due("a path can", x.can(), true);
        Due.due("its moments", x.moments(), 4);
        int[] want = {3, 6, 12, 24};
        for (int k = 0; k < 4; k++) {
            Due.due("moment " + k, x.moment(k), want[k]);
        }
        Due.refuses("moment(4)", NO_WHAT, () -> x.moment(4));
        Due.refuses("moment(-1)", NO_WHAT, () -> x.moment(-1));
        Due.due("a ring cannot", Due.inn(4, RING).can(), false);
        Due.due("an open chord is no meeting", Due.inn(4, RING + ";open 0 2").can(), false);
        // Three times three guests who met all of the other threes: the most moments that nine can have.
        StringBuilder text = new StringBuilder("met 0 3");
        for (int a = 0; a < 9; a++) {
            for (int b = a + 1; b < 9; b++) {
                text.append(a / 3 == b / 3 || a == 0 && b == 3 ? "" : ";met " + a + " " + b);
            }
        }
        InnNight most = Due.inn(9, text.toString());
        Due.due("27 moments", most.moments(), 27);
        Due.due("the first one", most.moment(0), 1 | 8 | 64);
        Due.due("the last one", most.moment(26), 4 | 32 | 256);
        Due.due("cannot be laid", most.can(), false);
        Due.due("not round", most.round(), false);
        Due.due("the ring of 27 moments", most.ring(), 27);
        Due.due("obey then", most.obey(), 0);
        Due.due("nodes then", most.sum(6), 0);
    }

    private static void promises15and16() {
        // The moment in the middle has the least number, so THE LEAST begins at an end of the row.
        InnNight x = Due.inn(4, "met 0 1;met 0 2;met 1 3");
        int[] moments = {3, 5, 10};
        for (int k = 0; k < 3; k++) {
            Due.due("moment " + k, x.moment(k), moments[k]);
        }
        int[] least = {1, 0, 2};
        for (int k = 0; k < 3; k++) {
            Due.due("lay " + k, x.lay(k), least[k]);
        }
        Due.due("lay(3)", x.lay(3), -1);
        Due.due("lay(-1)", x.lay(-1), -1);
        Due.due("stays(0, false)", x.stays(0, false), 0);
        Due.due("stays(0, true)", x.stays(0, true), 1);
        Due.due("stays(3, false)", x.stays(3, false), 2);
        Due.refuses("stays(4)", NO_SUCH, () -> x.stays(4, false));
        InnNight ring = Due.inn(4, RING);
        Due.refuses("lay of a ring", NOT_LAID, () -> ring.lay(-1));
        Due.refuses("stays of a ring", NOT_LAID, () -> ring.stays(3, true));
        Due.refuses("stays of none in a ring", NO_SUCH, () -> ring.stays(4, true));
    }

    private static void promises17to20() {
        InnNight ring = Due.inn(6, "met 1 2;met 2 3;met 3 4;met 4 5;met 5 1");
        Due.due("knot 1", ring.knot(), 1);
        Due.due("ring of five", ring.ring(), 62);
        Due.due("no three in it", ring.three(0), -1);
        Due.due("small is the ring", ring.small(), 62);
        InnNight six = Due.inn(6, "met 0 1;met 1 2;met 2 3;met 3 4;met 4 5;met 5 0");
        Due.due("three of a ring of six", six.three(0) * 100 + six.three(1) * 10 + six.three(2), 24);
        InnNight spider = Due.inn(7, SPIDER);
        Due.due("knot 2", spider.knot(), 2);
        Due.due("no ring", spider.ring(), 0);
        Due.due("three", spider.three(0) * 100 + spider.three(1) * 10 + spider.three(2), 456);
        Due.due("three(-1)", spider.three(-1), -1);
        Due.due("three(3)", spider.three(3), -1);
        Due.due("small", spider.small(), 127);
        InnNight two = Due.inn(8, "met 0 1;met 1 2;met 2 3;met 3 0;met 4 5;met 5 6;met 6 7;met 7 4");
        Due.due("the ring of the least bits", two.ring(), 15);
        Due.due("small of two rings", two.small(), 15);
        InnNight path = Due.inn(5, PATH);
        Due.due("knot 0", path.knot(), 0);
        Due.due("small 0", path.small(), 0);
        Due.due("ring 0", path.ring(), 0);
    }

    private static void promise21() {
        InnNight x = Due.inn(9, SPIDER + ";met 7 8");
        Due.due("check a spider", x.check(127), 2);
        Due.due("check with one more", x.check(255), 3);
        Due.due("check bits of none", x.check(127 | 512 | 1 << 30), 2);
        Due.due("check all bits", x.check(-1), 3);
        Due.due("check nobody", x.check(0), 0);
        Due.due("check bits of none alone", x.check(512), 0);
        Due.due("check what can", x.check(126), 0);
        InnNight ring = Due.inn(5, RING + ";met 0 4");
        Due.due("check a ring", ring.check(15), 1);
        Due.due("check a ring and one more", ring.check(31), 3);
    }

    private static void promise22() {
        Due.due("count of no guests", new InnNight().count(), 1);
        Due.due("count of one", Due.inn(1).count(), 1);
        Due.due("count of a path", Due.inn(5, PATH).count(), 2);
        Due.due("count of a ring", Due.inn(4, RING).count(), 0);
        Due.due("count of nine apart", Due.inn(9).count(), 362880);
        Due.due("count of two paths", Due.inn(6, "met 0 1;met 1 2;met 3 4;met 4 5").count(), 8);
    }

    private static void nodeIs(InnNight x, int k, int kind, int moments, int above, int parts) {
        Due.due("node " + k + " kind", x.node(k, 0), kind);
        Due.due("node " + k + " moments", x.node(k, 1), moments);
        Due.due("node " + k + " above", x.node(k, 2), above);
        Due.due("node " + k + " parts", x.node(k, 3), parts);
    }

    private static void promise23() {
        InnNight path = Due.inn(5, PATH);
        nodeIs(path, 0, 2, 15, -1, 4);
        nodeIs(path, 1, 0, 1, 0, 0);
        nodeIs(path, 4, 0, 8, 0, 0);
        nodeIs(path, 5, -1, -1, -1, -1);
        nodeIs(path, -1, -1, -1, -1, -1);
        Due.refuses("node(0, 4)", NO_WHAT, () -> path.node(0, 4));
        Due.refuses("node(9, -1)", NO_WHAT, () -> path.node(9, -1));
        // One more guest alone, and a path of three moments whose middle one has the least number.
        InnNight x = Due.inn(5, "met 0 1;met 0 2;met 1 3");
        nodeIs(x, 0, 1, 15, -1, 2);
        nodeIs(x, 1, 2, 7, 0, 3);
        nodeIs(x, 2, 0, 2, 1, 0);
        nodeIs(x, 3, 0, 1, 1, 0);
        nodeIs(x, 4, 0, 4, 1, 0);
        nodeIs(x, 5, 0, 8, 0, 0);
        Due.due("nodes", x.sum(6), 6);
        // THE LEAST begins at the end of the single moment 2, but the part at the other end has moment 0.
        InnNight turned = Due.inn(7, "met 0 1;met 0 2;met 1 2;met 2 3;met 3 4;met 0 5;met 2 5;met 1 6;met 2 6");
        int[] least = {2, 1, 3, 0, 4};
        for (int place = 0; place < 5; place++) {
            Due.due("the least " + place, turned.lay(place), least[place]);
        }
        nodeIs(turned, 0, 2, 31, -1, 3);
        nodeIs(turned, 1, 2, 25, 0, 3);
        nodeIs(turned, 2, 0, 8, 1, 0);
        nodeIs(turned, 3, 0, 1, 1, 0);
        nodeIs(turned, 4, 0, 16, 1, 0);
        nodeIs(turned, 5, 0, 2, 0, 0);
        nodeIs(turned, 6, 0, 4, 0, 0);
        // THE LEAST has the one alone first, then the row with moment 1, then the row with moment 0.
        InnNight rows = Due.inn(9, "met 0 1;met 2 3;met 2 5;met 3 6;met 0 7;met 1 8");
        int[] begins = {2, 3, 1, 4, 5, 0, 6};
        for (int place = 0; place < 7; place++) {
            Due.due("the least of two rows " + place, rows.lay(place), begins[place]);
        }
        int[][] nodes = {{1, 127, -1, 3}, {2, 97, 0, 3}, {0, 32, 1, 0}, {0, 1, 1, 0}, {0, 64, 1, 0}, {2, 26, 0, 3},
            {0, 8, 5, 0}, {0, 2, 5, 0}, {0, 16, 5, 0}, {0, 4, 0, 0}};
        for (int k = 0; k < nodes.length; k++) {
            nodeIs(rows, k, nodes[k][0], nodes[k][1], nodes[k][2], nodes[k][3]);
        }
        Due.due("nodes of two rows", rows.sum(6), 10);
        InnNight one = Due.inn(3, "met 0 1;met 1 2;met 0 2");
        nodeIs(one, 0, 0, 1, -1, 0);
        nodeIs(new InnNight(), 0, -1, -1, -1, -1);
        InnNight ring = Due.inn(4, RING);
        Due.refuses("node of a ring", NOT_LAID, () -> ring.node(0, 7));
    }

    private static void promise24() {
        InnNight path = Due.inn(6, PATH);
        Due.due("between 0 2 4", path.between(0, 2, 4), true);
        Due.due("between 4 2 0", path.between(4, 2, 0), true);
        Due.due("between 2 0 4", path.between(2, 0, 4), false);
        Due.due("between met ones", path.between(0, 1, 3), false);
        Due.due("between one twice", path.between(0, 2, 0), false);
        Due.due("between a loose one", path.between(0, 5, 4), false);
        Due.due("between open ones", Due.inn(5, PATH + ";open 0 2").between(0, 2, 4), true);
        Due.refuses("between(0, 2, 6)", NO_SUCH, () -> path.between(0, 2, 6) ? 1 : 0);
        InnNight ring = Due.inn(4, RING);
        Due.refuses("between of a ring", NOT_LAID, () -> ring.between(0, 0, 0) ? 1 : 0);
        Due.refuses("between of none in a ring", NO_SUCH, () -> ring.between(0, 0, 4) ? 1 : 0);
    }

    private static String openAll(int guests) {
        StringBuilder text = new StringBuilder();
        for (int a = 0; a < guests; a++) {
            for (int b = a + 1; b < guests; b++) {
                text.append(text.length() == 0 ? "" : ";").append("open").append(a).append(' ').append(b);
            }
        }
        return text.toString();
    }

    private static void promise25() {
        Due.due("opens", Due.inn(3, "open 0 1;open 2 1;met 0 2").opens(), 2);
        Due.due("opens beyond eight", Due.inn(5, openAll(5)).opens(), 10);
        Due.due("no opens", Due.inn(3, "open 0 1;met 0 1").opens(), 0);
    }

    private static void promise26() {
        InnNight ring = Due.inn(4, RING + ";open 1 3;open 0 2");
        Due.due("the fewest, of these the least bits", ring.choose(false), 1);
        Due.due("the most", ring.choose(true), 3);
        Due.due("none would do", Due.inn(5, RING + ";open 0 4").choose(false), -1);
        InnNight many = Due.inn(5, openAll(5));
        Due.due("the fewest of many", many.choose(false), 0);
        Due.due("the most of the first eight", many.choose(true), 255);
        InnNight behind = Due.inn(6, "open 0 4;open 0 5;open 1 4;open 1 5;open 2 4;open 2 5;open 3 4;open 3 5;open 4 5;"
                + RING);
        Due.due("nine open", behind.opens(), 9);
        Due.due("none of eight would do", behind.choose(true), -1);
    }

    private static void promise27() {
        Due.due("none to ask", Due.inn(3).ask(), -1);
        // Told APART all three leave the 6 of now, told MET 2, 2 and 2: the first one.
        Due.due("the first of several", Due.inn(3, "open 0 1;open 0 2;open 1 2").ask(), 0);
        // Now none can be laid: a chord told MET leaves 2, one that mends nothing leaves none.
        Due.due("what leaves none leaves fewer", Due.inn(5, RING + ";open 0 2;open 0 4").ask(), 1);
        // Now there are 4: the first pair told MET leaves 6, the second one 2.
        Due.due("where it leaves more", Due.inn(4, "met 0 1;met 0 2;open 1 3;open 3 0").ask(), 1);
        Due.due("many to ask", Due.inn(5, openAll(5)).ask(), 0);
        // Now there are 6: told MET they leave 4 and 2, but told APART 6, both of them.
        Due.due("where it leaves more is APART", Due.inn(4, "met 0 1;open 0 2;open 2 3").ask(), 0);
    }

    private static void promises28and29() {
        InnNight x = Due.inn(5, "met 0 1;open 0 2;ahead 1 2;met 3 4");
        for (int what = 0; what < 4; what++) {
            Due.due("judge " + what + " without stays", x.judge(what), 0);
        }
        x.stay(0, 0, 9);
        x.stay(1, 10, 20);
        Due.due("met without an hour", x.judge(0), 1);
        x.stay(1, 9, 20);
        Due.due("met with an hour", x.judge(0), 0);
        x.stay(2, 20, 99);
        Due.due("apart with an hour", x.judge(1), 1);
        Due.due("ahead not so", x.judge(3), 1);
        Due.due("open without an hour", x.judge(2), 0);
        x.stay(2, 21, 21);
        Due.due("apart without an hour", x.judge(1), 0);
        Due.due("ahead so", x.judge(3), 0);
        x.stay(2, 0, 5);
        Due.due("open with an hour", x.judge(2), 1);
        Due.due("ahead the other way", x.judge(3), 1);
        Due.due("apart though ahead is wrong", x.judge(1), 0);
        x.stay(3, 50, 60);
        Due.due("of those told alone", x.judge(0), 0);
        InnNight hours = Due.inn(2, "met 1 0");
        hours.stay(0, 8, 8);
        hours.stay(1, 8, 8);
        Due.due("one hour of both", hours.judge(0), 0);
        hours.stay(1, 0, 7);
        Due.due("gone by then", hours.judge(0), 1);
        hours.stay(0, 7, 9);
        Due.due("the last hour of the other one", hours.judge(0), 0);
        Due.refuses("stay(5)", NO_SUCH, () -> stay(x, 5, 9, 1));
        Due.refuses("stay(-1)", NO_SUCH, () -> stay(x, -1, 0, 1));
        Due.refuses("stay from behind till", IllegalArgumentException.class, () -> stay(x, 0, 9, 8));
        Due.refuses("stay from -1", IllegalArgumentException.class, () -> stay(x, 0, -1, 8));
        Due.refuses("stay till 100", IllegalArgumentException.class, () -> stay(x, 0, 0, 100));
        Due.refuses("judge(4)", NO_WHAT, () -> x.judge(4));
        Due.refuses("judge(-1)", NO_WHAT, () -> x.judge(-1));
        stay(x, 4, 61, 99);
        Due.due("the last hour", x.judge(0), 1);
        stay(x, 4, 60, 60);
        Due.due("one hour", x.judge(0), 0);
    }

    private static long stay(InnNight x, int guest, int from, int till) {
        x.stay(guest, from, till);
        return 0L;
    }

    private static void fewest(String name, InnNight x, boolean lies, int many, int which, int sets) {
        int[] want = {many, which, sets};
        for (int what = 0; what < 3; what++) {
            Due.due(name + " " + what, lies ? x.lies(what) : x.leave(what), want[what]);
        }
    }

    private static void promise30() {
        fewest("lies of a ring", Due.inn(4, RING), true, 1, 1, 4);
        fewest("lies of a path", Due.inn(5, PATH), true, 0, 0, 1);
        fewest("lies of none", new InnNight(), true, 0, 0, 1);
        InnNight chord = Due.inn(4, "met 0 2 sure 40;apart 0 2;" + RING);
        fewest("a lie that hides a chord", chord, true, 1, 2, 5);
        chord.strike(1, true);
        fewest("with it struck", chord, true, 0, 0, 1);
        StringBuilder ten = new StringBuilder();
        for (int k = 0; k < 10; k++) {
            ten.append("met 4 5;");
        }
        fewest("a ring behind the first ten", Due.inn(6, ten + RING), true, -1, -1, -1);
        InnNight nine = Due.inn(6, ten + RING);
        nine.strike(3, true);
        fewest("a ring whose first is the tenth in force", nine, true, 1, 512, 1);
        Due.refuses("lies(3)", NO_WHAT, () -> nine.lies(3));
        Due.refuses("lies(-1)", NO_WHAT, () -> nine.lies(-1));
    }

    private static void promise31() {
        fewest("leave of a ring", Due.inn(4, RING), false, 1, 1, 4);
        fewest("leave of a path", Due.inn(5, PATH), false, 0, 0, 1);
        fewest("leave of none", new InnNight(), false, 0, 0, 1);
        fewest("leave of two rings", Due.inn(8, RING + ";met 4 5;met 5 6;met 6 7;met 7 4"), false, 2, 17, 16);
        InnNight x = Due.inn(5, RING + ";met 1 4");
        fewest("leave of a ring and one more", x, false, 1, 1, 4);
        Due.refuses("leave(3)", NO_WHAT, () -> x.leave(3));
        Due.refuses("leave(-1)", NO_WHAT, () -> x.leave(-1));
    }

    /** What was asked once is asked again behind each kind of change. */
    private static void changes() {
        InnNight x = Due.inn(4, RING);
        fewest("lies", x, true, 1, 1, 4);
        fewest("leave", x, false, 1, 1, 4);
        x.image();
        x.strike(2, true);
        fewest("lies of one struck", x, true, 0, 0, 1);
        fewest("leave of one struck", x, false, 0, 0, 1);
        Due.due("can", x.can(), true);
        Due.due("nodes", x.sum(6), 4);
        Due.due("obey", x.obey(), 2);
        x.back();
        fewest("lies again", x, true, 1, 1, 4);
        fewest("leave again", x, false, 1, 1, 4);
        Due.due("can again", x.can(), false);
        Due.due("nodes again", x.sum(6), 0);
        Due.due("obey again", x.obey(), 0);
        Due.tell(x, "met 0 2");
        fewest("lies with a chord", x, true, 0, 0, 1);
        fewest("leave with a chord", x, false, 0, 0, 1);
        Due.due("nodes with a chord", x.sum(6), 3);
        Due.due("obey with a chord", x.obey(), 2);
        x.guest();
        Due.due("moments of one more", x.moments(), 3);
        Due.due("nodes of one more", x.sum(6), 5);
        Due.due("obey of one more", x.obey(), 4);
    }

    private static void promises32to35() {
        Due.due("unit", Due.inn(5, PATH).kind(), 0);
        InnNight star = Due.inn(5, "met 4 3;met 4 2;met 4 1;met 4 0");
        Due.due("laid, but a claw", star.kind(), 1);
        int[] claw = {4, 0, 1, 2};
        for (int k = 0; k < 4; k++) {
            Due.due("claw " + k, star.claw(k), claw[k]);
        }
        Due.due("claw(4)", star.claw(4), -1);
        Due.due("claw(-1)", star.claw(-1), -1);
        Due.due("no claw", Due.inn(5, PATH).claw(0), -1);
        InnNight ring = Due.inn(4, RING);
        Due.due("round", ring.kind(), 2);
        Due.due("round()", ring.round(), true);
        Due.due("a path is round, too", Due.inn(5, PATH).round(), true);
        InnNight spider = Due.inn(7, SPIDER);
        Due.due("a spider is not round", spider.round(), false);
        Due.due("it comes twice", spider.kind(), 3);
        Due.due("twice in the middle", spider.twice(0), true);
        Due.due("twice at an end", spider.twice(6), false);
        Due.due("twice where all can", Due.inn(5, PATH).twice(0), true);
        InnNight two = Due.inn(8, RING + ";met 4 5;met 5 6;met 6 7;met 7 4");
        Due.due("none of these", two.kind(), -1);
        Due.due("two rings are not round", two.round(), false);
        Due.due("nor twice", two.twice(0), false);
        Due.refuses("twice(8)", NO_SUCH, () -> two.twice(8) ? 1 : 0);
        Due.refuses("twice(-1)", NO_SUCH, () -> two.twice(-1) ? 1 : 0);
        Due.due("one alone breaks the ring", Due.inn(5, RING).kind(), 3);
        Due.due("a ring of nine", Due.inn(9,
                "met 0 1;met 1 2;met 2 3;met 3 4;met 4 5;met 5 6;met 6 7;met 7 8;met 8 0").kind(), 2);
        Due.due("kind of none", new InnNight().kind(), 0);
    }

    private static void promises36and37() {
        InnNight path = Due.inn(5, PATH);
        int[] rooms = {0, 1, 0, 1, 0};
        for (int g = 0; g < 5; g++) {
            Due.due("room " + g, path.room(g), rooms[g]);
        }
        Due.due("rooms", path.rooms(), 2);
        Due.due("rooms of none", new InnNight().rooms(), 0);
        Due.due("rooms of three who met", Due.inn(3, "met 0 1;met 1 2;met 0 2").rooms(), 3);
        // THE LEAST is 0-2, 0-1, 1-3, so guests 0 and 2 come first, then 1 takes what 2 has left.
        InnNight x = Due.inn(4, "met 0 1;met 0 2;met 1 3");
        int[] want = {0, 1, 1, 0};
        for (int g = 0; g < 4; g++) {
            Due.due("room " + g + " by coming", x.room(g), want[g]);
        }
        Due.refuses("room(5)", NO_SUCH, () -> path.room(5));
        InnNight ring = Due.inn(4, RING);
        Due.refuses("room of a ring", NOT_LAID, () -> ring.room(0));
        Due.refuses("room of none in a ring", NO_SUCH, () -> ring.room(4));
        Due.refuses("rooms of a ring", NOT_LAID, () -> ring.rooms());
    }

    private static void promises38to40() {
        InnNight x = Due.inn(3, "ahead 2 1");
        Due.due("obey", x.obey(), 3);
        Due.due("count is of all", x.count(), 6);
        Due.due("span least", x.span(1, false), 1);
        Due.due("span greatest", x.span(1, true), 2);
        Due.due("span of the first one", x.span(2, true), 1);
        Due.due("must 2 1", x.must(2, 1), 1);
        Due.due("must 1 2", x.must(1, 2), 0);
        Due.due("must 0 1", x.must(0, 1), 2);
        Due.due("must itself", x.must(1, 1), -1);
        Due.due("an order in a round", Due.tell(x, "ahead 1 0;ahead 0 2"), 2);
        Due.due("none obeys", x.obey(), 0);
        Due.due("span of none", x.span(0, false), -1);
        Due.due("must of none", x.must(0, 1), -1);
        x.strike(2, true);
        Due.due("one obeys", x.obey(), 1);
        Due.due("must by two orders", x.must(2, 0), 1);
        Due.due("an overruled order", Due.tell(x, "met 1 0"), 1);
        Due.due("orders that rule alone count", x.obey(), 1);
        Due.due("must of met ones", x.must(0, 1), -1);
        InnNight open = Due.inn(2, "open 0 1");
        Due.due("must of open ones", open.must(0, 1), 2);
        Due.refuses("span(2)", NO_SUCH, () -> open.span(2, true));
        Due.refuses("must(0, 2)", NO_SUCH, () -> open.must(0, 2));
        Due.refuses("must(-1, 0)", NO_SUCH, () -> open.must(-1, 0));
        InnNight ring = Due.inn(4, RING);
        Due.due("obey of a ring", ring.obey(), 0);
        Due.due("span of a ring", ring.span(0, false), -1);
        Due.due("must of a ring", ring.must(0, 2), -1);
        Due.due("obey of none", new InnNight().obey(), 1);
    }

    private static void listIs(InnNight x, int can, int noRing, int greatest, int pairs, int guests) {
        int[] want = {can, noRing, greatest, pairs, guests};
        for (int what = 0; what < 5; what++) {
            Due.due("listed " + what, x.listed(what), want[what]);
        }
    }

    private static void promises41and42() {
        InnNight x = new InnNight();
        listIs(x, 1, 1, 0, 0, 0);
        Due.due("a list without meetings", Due.list(x, 60), 0);
        listIs(x, 1, 1, 1, 0, 60);
        Due.due("a pair told twice counts once", Due.list(x, 3, 0, 1, 1, 0, 1, 2), 2);
        listIs(x, 1, 1, 2, 2, 3);
        Due.due("a ring", Due.list(x, 5, 0, 1, 1, 2, 2, 3, 3, 0), 4);
        listIs(x, 0, 0, -1, 4, 5);
        Due.due("a spider", Due.list(x, 60, 50, 51, 50, 52, 50, 53, 51, 54, 52, 55, 53, 59), 6);
        listIs(x, 0, 1, 2, 6, 60);
        Due.tape(x, 0, 1, 1);
        Due.refuses("one byte is left", IllegalArgumentException.class, () -> x.list(2));
        Due.due("the tape is used up", x.end(1), false);
        Due.tape(x, 0, 2);
        Due.refuses("a byte is none", IllegalArgumentException.class, () -> x.list(2));
        Due.due("the tape is used up", x.end(1), false);
        Due.tape(x, 2, 0);
        Due.refuses("a first byte is none", IllegalArgumentException.class, () -> x.list(2));
        Due.tape(x, 1, 1);
        Due.refuses("both are one", IllegalArgumentException.class, () -> x.list(2));
        Due.tape(x, 0, 1);
        Due.refuses("list(0)", IllegalArgumentException.class, () -> x.list(0));
        Due.due("the tape is used up", x.end(1), false);
        Due.refuses("list(61)", IllegalArgumentException.class, () -> x.list(61));
        Due.refuses("list(-1)", IllegalArgumentException.class, () -> x.list(-1));
        listIs(x, 0, 1, 2, 6, 60);
        Due.due("a list is no text", x.fault(), -1);
        Due.refuses("listed(5)", NO_WHAT, () -> x.listed(5));
        Due.refuses("listed(-1)", NO_WHAT, () -> x.listed(-1));
        Due.due("guests of its own", x.sum(0), 0);
        Due.due("a list of one", Due.list(x, 1), 0);
        listIs(x, 1, 1, 1, 0, 1);
    }

    private static void promises43and44() {
        InnNight x = Due.inn(3, "met 0 1;met 1 2");
        Due.due("back without an image", x.back(), false);
        Due.due("nothing happens", x.sum(1), 2);
        x.stay(0, 5, 6);
        x.stay(1, 6, 7);
        Due.due("leave ahead of the image", x.leave(1), 0);
        Due.list(x, 3, 0, 1);
        x.strike(1, true);
        x.image();
        x.guest();
        Due.tell(x, "met 2 3;apart 0 1");
        x.strike(0, true);
        x.strike(1, false);
        x.stay(0, 0, 1);
        x.stay(1, 8, 9);
        x.stay(2, 0, 99);
        Due.list(x, 4, 0, 1, 1, 2, 2, 3, 3, 0);
        Due.tape(x, "m");
        Due.refuses("a wrong text", IllegalArgumentException.class, () -> x.memory());
        x.feed(0, 0, 0, 0, 0);
        Due.due("back", x.back(), true);
        Due.due("guests", x.sum(0), 3);
        Due.due("memories", x.sum(1), 2);
        Due.due("in force", x.sum(2), 1);
        Due.due("pair 0 1", x.pair(0, 1), 0);
        Due.due("pair 1 2", x.pair(1, 2), 1);
        Due.due("judge", x.judge(0), 0);
        Due.due("judge of one told later", x.judge(1), 0);
        listIs(x, 1, 1, 2, 1, 3);
        Due.due("not the fault", x.fault(), 0);
        Due.due("not the tape", x.end(20), true);
        x.end(0);
        Due.due("the next guest", x.guest(), 3);
        Due.due("whom none has met", x.pair(2, 3), 1);
        Due.due("who has no stay", x.judge(1), 0);
        Due.due("the image stays", x.back(), true);
        Due.due("guests again", x.sum(0), 3);
        x.guest();
        x.image();
        x.guest();
        x.back();
        Due.due("the later image", x.sum(0), 4);
        InnNight empty = new InnNight();
        empty.image();
        empty.guest();
        Due.list(empty, 4, 0, 1);
        Due.due("back to nothing", empty.back(), true);
        Due.due("no guests", empty.sum(0), 0);
        listIs(empty, 1, 1, 0, 0, 0);
    }

    private static void promise45() {
        InnNight x = Due.inn(5, "met 0 1;apart 1 0 sure 1;open 1 2;ahead 3 4;met 2 3");
        x.strike(4, true);
        int[] want = {5, 5, 4, 1, 1, 8, 5};
        for (int what = 0; what < 7; what++) {
            Due.due("sum " + what, x.sum(what), want[what]);
        }
        Due.due("sum 7", x.sum(7), -1);
        Due.due("sum -1", x.sum(-1), -1);
        Due.due("nodes of a ring", Due.inn(4, RING).sum(6), 0);
        Due.due("nodes of none", new InnNight().sum(6), 0);
    }
}
