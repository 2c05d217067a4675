/** The edges of LAYINGS: MOMENTS, RINGS and other knots, THE CHART. A test for each sentence. */
public final class LayingBoundsTest {
    private static final int MIN = Integer.MIN_VALUE;
    private static final int MAX = Integer.MAX_VALUE;
    private static final String RING = "met 0 1;met 1 2;met 2 3;met 0 3";
    private static final String TWO_RINGS = RING + ";met 4 5;met 5 6;met 6 7;met 7 4";
    // A ring of five, and a ring of four of greater numbers.
    private static final String FIVE_AND_FOUR =
            "met 0 1;met 1 2;met 2 3;met 3 4;met 4 0;met 5 6;met 6 7;met 7 8;met 8 5";
    private static final String SPIDER = "met 0 1;met 0 2;met 0 3;met 1 4;met 2 5;met 3 6";
    // Three who have all met, and one more for each of them.
    private static final String NET = "met 0 1;met 1 2;met 0 2;met 0 3;met 1 4;met 2 5";
    private static final String PATH = "met 0 1;met 1 2;met 2 3;met 3 4";

    public static void main(String[] args) {
        openCountsAsApart();
        whatAMomentIs();
        numbersOfMoments();
        withoutGuests();
        whatCanBeLaid();
        leastLaying();
        whatARingIs();
        fewestOfARing();
        whatAThreeIs();
        leastThree();
        knots();
        smallOnes();
        chartOfNone();
        strongSets();
        kindsOfNodes();
        numbersOfNodes();
        turnsFromWhichEnd();
        layingsCounted();
        betweenTwo();
        momentsCounted();
        momentBehindTheLast();
        layBehindTheLast();
        staysOfOne();
        cannotBeLaid();
        ringWithoutOne();
        threeOfAnother();
        smallWithoutOne();
        checkBits();
        checkAnswers();
        countOfNone();
        nodeAnswers();
        nodeOfNone();
        nodeOfAnother();
        betweenOthers();
        Due.close();
    }

    private static String allMet(int guests) {
        StringBuilder text = new StringBuilder();
        for (int a = 0; a < guests; a++) {
            for (int b = a + 1; b < guests; b++) {
                text.append(text.length() == 0 ? "" : ";").append("met").append(a).append(' ').append(b);
            }
        }
        return text.toString();
    }

    /** Nine guests, three times three of whom those of one three alone have not met: 27 MOMENTS. */
    private static String threeThrees() {
        StringBuilder text = new StringBuilder();
        for (int a = 0; a < 9; a++) {
            for (int b = a + 1; b < 9; b++) {
                if (a / 3 != b / 3) {
                    text.append(text.length() == 0 ? "" : ";").append("met").append(a).append(' ').append(b);
                }
            }
        }
        return text.toString();
    }

    private static void momentsAre(String name, InnNight x, int... want) {
        Due.due(name + ": moments", x.moments(), want.length);
        for (int k = 0; k < want.length; k++) {
            Due.due(name + ": moment " + k, x.moment(k), want[k]);
        }
    }

    private static void openCountsAsApart() {
        Due.says("PLAIN: OPEN pairs count as APART.");
        momentsAre("three with an open pair", Due.inn(3, "met 0 1;met 1 2;open 0 2"), 3, 6);
        momentsAre("an open pair", Due.inn(2, "open 0 1"), 1, 2);
        Due.due("a ring", Due.inn(4, RING + ";open 0 2;open 1 3").ring(), 15);
        Due.due("a three", Due.inn(7, SPIDER + ";open 4 5;open 5 6").three(2), 6);
        Due.due("a claw", Due.inn(4, "met 0 1;met 0 2;met 0 3;open 1 2;open 2 3").claw(3), 3);
        Due.due("layings", Due.inn(3, "open 0 1;open 1 2;open 0 2").count(), 6);
        Due.due("between", Due.inn(5, PATH + ";open 0 2;open 2 4;open 0 4").between(0, 2, 4), true);
    }

    private static void whatAMomentIs() {
        Due.says("MOMENTS: all sets of GUESTS (not empty) of which every two have MET, to which none more can be added");
        momentsAre("no guests", new InnNight());
        momentsAre("one guest", Due.inn(1), 1);
        momentsAre("two apart", Due.inn(2), 1, 2);
        momentsAre("two who met", Due.inn(2, "met 0 1"), 3);
        momentsAre("nine who met", Due.inn(9, allMet(9)), 511);
        momentsAre("two threes of four", Due.inn(4, "met 0 1;met 0 2;met 1 2;met 1 3;met 2 3"), 7, 14);
        InnNight most = Due.inn(9, threeThrees());
        Due.due("the most", most.moments(), 27);
        Due.due("the first of the most", most.moment(0), 73);
        Due.due("the last of the most", most.moment(26), 292);
    }

    private static void numbersOfMoments() {
        Due.says("numbered from 0 on as their bits grow.");
        momentsAre("nine apart", Due.inn(9), 1, 2, 4, 8, 16, 32, 64, 128, 256);
        momentsAre("one of greater bits and fewer guests", Due.inn(4, "met 0 1;met 1 2;met 0 2"), 7, 8);
        momentsAre("told from the end", Due.inn(4, "met 3 2;met 0 3;met 1 0"), 3, 9, 12);
        InnNight most = Due.inn(9, threeThrees());
        for (int k = 1; k < 27; k++) {
            Due.due("moment " + k + " behind the one before", most.moment(k) > most.moment(k - 1), true);
        }
    }

    private static void withoutGuests() {
        Due.says("It CAN be laid, if there is one (so without GUESTS, too).");
        InnNight x = new InnNight();
        Due.due("can", x.can(), true);
        Due.due("count", x.count(), 1);
        Due.due("knot", x.knot(), 0);
        Due.due("small", x.small(), 0);
        Due.due("ring", x.ring(), 0);
        Due.due("three", x.three(0), -1);
        Due.due("lay", x.lay(0), -1);
        Due.due("rooms", x.rooms(), 0);
        Due.due("obey", x.obey(), 1);
        Due.due("kind", x.kind(), 0);
        Due.due("round", x.round(), true);
        Due.due("choose the fewest", x.choose(false), 0);
        Due.due("choose the most", x.choose(true), 0);
        Due.due("lies", x.lies(0), 0);
        Due.due("leave", x.leave(0), 0);
    }

    private static void whatCanBeLaid() {
        Due.says("A LAYING: an order of all MOMENTS in which those of each GUEST stand side by side.");
        Due.due("one guest", Due.inn(1).can(), true);
        Due.due("nine apart", Due.inn(9).can(), true);
        Due.due("nine who met", Due.inn(9, allMet(9)).can(), true);
        Due.due("a row of nine",
                Due.inn(9, PATH + ";met 4 5;met 5 6;met 6 7;met 7 8").can(), true);
        Due.due("a row of nine, closed",
                Due.inn(9, PATH + ";met 4 5;met 5 6;met 6 7;met 7 8;met 8 0").can(), false);
        Due.due("a star of nine",
                Due.inn(9, "met 8 0;met 8 1;met 8 2;met 8 3;met 8 4;met 8 5;met 8 6;met 8 7").can(), true);
        Due.due("ten moments", Due.inn(7, "met 0 2;met 0 3;met 0 4;met 0 5;met 0 6;met 1 2;met 1 3;met 1 4;met 1 5;"
                + "met 1 6").can(), false);
        Due.due("twenty-seven moments", Due.inn(9, threeThrees()).can(), false);
        Due.due("a net", Due.inn(6, NET).can(), false);
    }

    private static void leastLaying() {
        Due.says("THE LEAST: place by place, from 0 on, the MOMENT of the least number.");
        InnNight apart = Due.inn(9);
        for (int place = 0; place < 9; place++) {
            Due.due("nine apart " + place, apart.lay(place), place);
        }
        int[] least = {1, 0, 2};
        InnNight x = Due.inn(4, "met 0 1;met 0 2;met 1 3");
        for (int place = 0; place < 3; place++) {
            Due.due("the middle one is moment 0: " + place, x.lay(place), least[place]);
        }
        // Guest 1 was at moments 0 and 2, so that moment 1 comes behind these.
        InnNight row = Due.inn(7, "met 0 1;met 1 5;met 2 6;met 3 4");
        int[] moments = {3, 24, 34, 68};
        int[] places = {0, 2, 1, 3};
        for (int k = 0; k < 4; k++) {
            Due.due("moment " + k, row.moment(k), moments[k]);
            Due.due("place " + k, row.lay(k), places[k]);
        }
    }

    private static void whatARingIs() {
        Due.says("A RING: four GUESTS or more who can be told in turn so that each has MET the next one, and the last "
                + "one the first, and no others of them have.");
        Due.due("three", Due.inn(3, allMet(3)).ring(), 0);
        Due.due("three of four", Due.inn(4, allMet(3)).ring(), 0);
        Due.due("four", Due.inn(4, RING).ring(), 15);
        Due.due("four told crosswise", Due.inn(4, "met 0 2;met 2 1;met 1 3;met 3 0").ring(), 15);
        Due.due("four with one more meeting", Due.inn(4, RING + ";met 0 2").ring(), 0);
        Due.due("four who all met", Due.inn(4, allMet(4)).ring(), 0);
        Due.due("a row of four", Due.inn(4, "met 0 1;met 1 2;met 2 3").ring(), 0);
        Due.due("five with one more meeting", Due.inn(5, PATH + ";met 4 0;met 0 2").ring(), 29);
        Due.due("nine", Due.inn(9, PATH + ";met 4 5;met 5 6;met 6 7;met 7 8;met 8 0").ring(), 511);
        Due.due("two threes are no ring of six",
                Due.inn(6, "met 0 1;met 1 2;met 0 2;met 3 4;met 4 5;met 3 5").check(63), 0);
    }

    private static void fewestOfARing() {
        Due.says("THE RING: of the fewest GUESTS, then of the least bits.");
        Due.due("four of greater bits", Due.inn(9, FIVE_AND_FOUR).ring(), 480);
        Due.due("of two rings of four", Due.inn(8, TWO_RINGS).ring(), 15);
        Due.due("of three rings of five guests",
                Due.inn(5, "met 0 1;met 1 2;met 2 3;met 0 3;met 2 4;met 0 4").ring(), 15);
        Due.due("a greater least guest, but of less bits",
                Due.inn(6, "met 1 2;met 2 3;met 3 4;met 4 1;met 0 1;met 0 5;met 5 3").ring(), 30);
    }

    private static void whatAThreeIs() {
        Due.says("A THREE: three GUESTS, each two of them APART, so that from each one to each other one leads a way, "
                + "from a GUEST to one whom it has MET and so on, that has not the third one, nor any whom that has "
                + "MET.");
        Due.due("three apart without a way", Due.inn(3).three(0), -1);
        Due.due("a way that has one whom the third has met", Due.inn(4, "met 0 1;met 0 2;met 0 3").three(0), -1);
        Due.due("one way that leads past the third", Due.inn(5, PATH).three(0), -1);
        Due.due("two of three who met", Due.inn(3, allMet(3)).three(0), -1);
        Due.due("a ring of five", Due.inn(5, PATH + ";met 4 0").three(0), -1);
        Due.due("a net", Due.inn(6, NET).three(0), 3);
        Due.due("a spider", Due.inn(7, SPIDER).three(0), 4);
        Due.due("a spider without an end", Due.inn(6, "met 0 1;met 0 2;met 0 3;met 1 4;met 2 5").three(0), -1);
        Due.due("a spider of which two ends met", Due.inn(7, SPIDER + ";met 4 5").three(0), -1);
    }

    private static void leastThree() {
        Due.says("THE THREE: of the least numbers, the least of them first, then the next one, then the last one.");
        int[] ringOfSix = {0, 2, 4};
        InnNight six = Due.inn(6, "met 0 1;met 1 2;met 2 3;met 3 4;met 4 5;met 5 0");
        int[] longLegs = {4, 5, 6};
        InnNight nine = Due.inn(9, SPIDER + ";met 4 7;met 5 8");
        int[] mixed = {1, 3, 8};
        InnNight turned = Due.inn(9, "met 6 0;met 6 2;met 6 7;met 0 8;met 2 3;met 7 1");
        for (int k = 0; k < 3; k++) {
            Due.due("ring of six " + k, six.three(k), ringOfSix[k]);
            Due.due("long legs " + k, nine.three(k), longLegs[k]);
            Due.due("mixed " + k, turned.three(k), mixed[k]);
        }
    }

    private static void knots() {
        Due.says("KNOT: 0, if it CAN be laid; 1, if there is a RING; else 2.");
        Due.due("a row", Due.inn(5, PATH).knot(), 0);
        Due.due("a ring", Due.inn(4, RING).knot(), 1);
        Due.due("a ring that has a three", Due.inn(6, "met 0 1;met 1 2;met 2 3;met 3 4;met 4 5;met 5 0").knot(), 1);
        Due.due("a net", Due.inn(6, NET).knot(), 2);
        Due.due("twenty-seven moments", Due.inn(9, threeThrees()).knot(), 1);
        InnNight x = Due.inn(7, SPIDER);
        Due.due("a spider", x.knot(), 2);
        x.strike(5, true);
        Due.due("a spider without an end", x.knot(), 0);
    }

    private static void smallOnes() {
        Due.says("SMALL: the fewest GUESTS, then the least bits, who taken alone cannot be laid; 0, if all can.");
        Due.due("four of greater bits", Due.inn(9, FIVE_AND_FOUR).small(), 480);
        Due.due("of two rings", Due.inn(8, TWO_RINGS).small(), 15);
        Due.due("a net and one more", Due.inn(7, NET + ";met 5 6").small(), 63);
        Due.due("a spider of the greater numbers",
                Due.inn(9, "met 2 3;met 2 4;met 2 5;met 3 6;met 4 7;met 5 8").small(), 508);
        Due.due("a ring of nine", Due.inn(9, PATH + ";met 4 5;met 5 6;met 6 7;met 7 8;met 8 0").small(), 511);
        Due.due("all of a row", Due.inn(5, PATH).small(), 0);
        Due.due("nine who met", Due.inn(9, allMet(9)).small(), 0);
    }

    private static void chartOfNone() {
        Due.says("THE CHART, if it CAN be laid and there are GUESTS.");
        Due.due("no guests", new InnNight().sum(6), 0);
        Due.due("no guests, a node", new InnNight().node(0, 1), -1);
        Due.due("a ring", Due.inn(4, RING).sum(6), 0);
        Due.due("one guest", Due.inn(1).sum(6), 1);
        Due.due("one guest, its node", Due.inn(1).node(0, 1), 1);
    }

    private static void nodeIs(InnNight x, int k, int kind, int moments, int above, int parts) {
        int[] want = {kind, moments, above, parts};
        for (int what = 0; what < 4; what++) {
            Due.due("node " + k + " " + what, x.node(k, what), want[what]);
        }
    }

    private static void strongSets() {
        Due.says("STRONG: a COMMON set of which no COMMON set has a part alone while it has something else, too. NODES: "
                + "all STRONG sets; its PARTS: the greatest STRONG sets within it, but itself.");
        Due.due("one moment", Due.inn(9, allMet(9)).sum(6), 1);
        Due.due("two moments", Due.inn(2).sum(6), 3);
        // Each two neighbours in a row are COMMON, but have parts alone of one another.
        Due.due("a row of four moments", Due.inn(5, PATH).sum(6), 5);
        Due.due("nine apart", Due.inn(9).sum(6), 10);
        Due.due("two rows and one", Due.inn(7, "met 0 1;met 1 2;met 3 4;met 4 5").sum(6), 8);
        // Guest 0 was there all the night, guest 1 at two of its three moments: parts within a part.
        InnNight x = Due.inn(6, "met 0 1;met 0 2;met 0 3;met 0 4;met 1 2;met 1 3");
        int[][] nodes = {{1, 15, -1, 2}, {1, 7, 0, 2}, {1, 3, 1, 2}, {0, 1, 2, 0}, {0, 2, 2, 0}, {0, 4, 1, 0},
            {0, 8, 0, 0}};
        for (int k = 0; k < nodes.length; k++) {
            nodeIs(x, k, nodes[k][0], nodes[k][1], nodes[k][2], nodes[k][3]);
        }
        Due.due("parts within parts", x.sum(6), 7);
    }

    private static void kindsOfNodes() {
        Due.says("KIND: 0 one MOMENT; 2 TURNS: one with three PARTS or more, some of which, two or more, but not all, "
                + "are together COMMON; 1 CHANGES: any other.");
        nodeIs(Due.inn(9, allMet(9)), 0, 0, 1, -1, 0);
        nodeIs(Due.inn(2), 0, 1, 3, -1, 2);
        nodeIs(Due.inn(3, "met 0 1;met 1 2"), 0, 1, 3, -1, 2);
        nodeIs(Due.inn(3), 0, 1, 7, -1, 3);
        nodeIs(Due.inn(4, "met 0 1;met 0 2;met 0 3"), 0, 1, 7, -1, 3);
        nodeIs(Due.inn(4, "met 0 1;met 1 2;met 2 3"), 0, 2, 7, -1, 3);
        nodeIs(Due.inn(9, PATH + ";met 4 5;met 5 6;met 6 7;met 7 8"), 0, 2, 255, -1, 8);
        nodeIs(Due.inn(9), 0, 1, 511, -1, 9);
    }

    private static void numbersOfNodes() {
        Due.says("NODES are numbered from the whole on: a NODE, then all within its first PART, and so on; PARTS of a "
                + "CHANGES by their least MOMENTS");
        InnNight x = Due.inn(7, "met 0 1;met 1 2;met 3 4;met 4 5");
        int[][] nodes = {{1, 31, -1, 3}, {1, 3, 0, 2}, {0, 1, 1, 0}, {0, 2, 1, 0}, {1, 12, 0, 2}, {0, 4, 4, 0},
            {0, 8, 4, 0}, {0, 16, 0, 0}};
        for (int k = 0; k < nodes.length; k++) {
            nodeIs(x, k, nodes[k][0], nodes[k][1], nodes[k][2], nodes[k][3]);
        }
        Due.due("nodes", x.sum(6), 8);
        // THE LEAST has the one alone (moment 2) first, then the rows with moments 0 and 1 in their middles.
        InnNight rows = Due.inn(9, "met 0 1;met 2 3;met 0 5;met 1 6;met 2 7;met 3 8");
        int[] least = {2, 3, 0, 4, 5, 1, 6};
        for (int place = 0; place < least.length; place++) {
            Due.due("the least " + place, rows.lay(place), least[place]);
        }
        int[][] inRows = {{1, 127, -1, 3}, {2, 25, 0, 3}, {0, 8, 1, 0}, {0, 1, 1, 0}, {0, 16, 1, 0}, {2, 98, 0, 3},
            {0, 32, 5, 0}, {0, 2, 5, 0}, {0, 64, 5, 0}, {0, 4, 0, 0}};
        for (int k = 0; k < inRows.length; k++) {
            nodeIs(rows, k, inRows[k][0], inRows[k][1], inRows[k][2], inRows[k][3]);
        }
        // Moments 5, 10, 17, 34, 64: 0 stands with 2, and 1 with 3, though 1 stands between them by number.
        InnNight mixed = Due.inn(7, "met 0 2;met 1 3;met 0 4;met 1 5");
        int[][] others = {{1, 31, -1, 3}, {1, 5, 0, 2}, {0, 1, 1, 0}, {0, 4, 1, 0}, {1, 10, 0, 2}, {0, 2, 4, 0},
            {0, 8, 4, 0}, {0, 16, 0, 0}};
        for (int k = 0; k < others.length; k++) {
            nodeIs(mixed, k, others[k][0], others[k][1], others[k][2], others[k][3]);
        }
    }

    private static void turnsFromWhichEnd() {
        Due.says("those of a TURNS as they stand in LAYINGS, from that end on whose PART has the lesser least MOMENT.");
        InnNight x = Due.inn(4, "met 0 1;met 0 2;met 1 3");
        int[] parts = {2, 1, 4};
        for (int k = 0; k < 3; k++) {
            nodeIs(x, k + 1, 0, parts[k], 0, 0);
        }
        // Rows of which one end is two moments that change places: the greatest ones, then the least ones.
        InnNight last = Due.inn(6, "met 0 1;met 1 2;met 2 3;met 3 4;met 3 5");
        int[][] lastNodes = {{2, 31, -1, 4}, {0, 1, 0, 0}, {0, 2, 0, 0}, {0, 4, 0, 0}, {1, 24, 0, 2}, {0, 8, 4, 0},
            {0, 16, 4, 0}};
        InnNight first = Due.inn(6, "met 0 1;met 0 2;met 0 3;met 3 4;met 4 5");
        int[][] firstNodes = {{2, 31, -1, 4}, {1, 3, 0, 2}, {0, 1, 1, 0}, {0, 2, 1, 0}, {0, 4, 0, 0}, {0, 8, 0, 0},
            {0, 16, 0, 0}};
        // THE LEAST begins with moment 1, but the row within the part at the other end has moment 0 in its middle.
        InnNight turned =
                Due.inn(8, "met 0 1;met 0 2;met 1 2;met 3 4;met 3 5;met 2 5;met 2 6;met 0 6;met 2 7;met 1 7");
        int[] least = {1, 3, 2, 4, 0, 5};
        for (int place = 0; place < least.length; place++) {
            Due.due("the least " + place, turned.lay(place), least[place]);
        }
        int[][] turnedNodes = {{2, 63, -1, 4}, {2, 49, 0, 3}, {0, 16, 1, 0}, {0, 1, 1, 0}, {0, 32, 1, 0}, {0, 4, 0, 0},
            {0, 8, 0, 0}, {0, 2, 0, 0}};
        for (int k = 0; k < turnedNodes.length; k++) {
            nodeIs(turned, k, turnedNodes[k][0], turnedNodes[k][1], turnedNodes[k][2], turnedNodes[k][3]);
        }
        for (int k = 0; k < 7; k++) {
            nodeIs(last, k, lastNodes[k][0], lastNodes[k][1], lastNodes[k][2], lastNodes[k][3]);
            nodeIs(first, k, firstNodes[k][0], firstNodes[k][1], firstNodes[k][2], firstNodes[k][3]);
        }
    }

    private static void layingsCounted() {
        Due.says("COUNT: how many LAYINGS there are.");
        Due.due("one guest", Due.inn(1).count(), 1);
        Due.due("two apart", Due.inn(2).count(), 2);
        Due.due("nine who met", Due.inn(9, allMet(9)).count(), 1);
        Due.due("a row", Due.inn(5, PATH).count(), 2);
        Due.due("a star of nine",
                Due.inn(9, "met 8 0;met 8 1;met 8 2;met 8 3;met 8 4;met 8 5;met 8 6;met 8 7").count(), 40320);
        Due.due("two rows and one", Due.inn(7, "met 0 1;met 1 2;met 3 4;met 4 5").count(), 24);
        Due.due("nine apart", Due.inn(9).count(), 362880);
    }

    private static void betweenTwo() {
        Due.says("BETWEEN: of three unlike GUESTS, each two APART: whether in every LAYING the second one's MOMENTS lie "
                + "between those of the two others.");
        InnNight x = Due.inn(6, PATH);
        Due.due("0 2 4", x.between(0, 2, 4), true);
        Due.due("4 2 0", x.between(4, 2, 0), true);
        Due.due("2 0 4", x.between(2, 0, 4), false);
        Due.due("0 4 2", x.between(0, 4, 2), false);
        Due.due("the loose one in the middle", x.between(0, 5, 4), false);
        Due.due("the loose one at an end", x.between(0, 2, 5), false);
        Due.due("three apart", Due.inn(3).between(0, 1, 2), false);
        Due.due("of a star", Due.inn(4, "met 0 1;met 0 2;met 0 3").between(1, 2, 3), false);
    }

    private static void momentsCounted() {
        Due.says("How many MOMENTS there are.");
        Due.due("no guests", new InnNight().moments(), 0);
        Due.due("one guest", Due.inn(1).moments(), 1);
        Due.due("nine apart", Due.inn(9).moments(), 9);
        Due.due("of a ring, which cannot be laid", Due.inn(4, RING).moments(), 4);
        Due.due("the most", Due.inn(9, threeThrees()).moments(), 27);
    }

    private static void momentBehindTheLast() {
        Due.says("A MOMENT, as bits. NoSuchElementException: there is none such.");
        InnNight none = new InnNight();
        Due.refuses("moment(0) of no guests", Due.NO_WHAT, () -> none.moment(0));
        InnNight nine = Due.inn(9);
        InnNight most = Due.inn(9, threeThrees());
        Due.due("moment(8)", nine.moment(8), 256);
        Due.refuses("moment(9)", Due.NO_WHAT, () -> nine.moment(9));
        Due.refuses("moment(27)", Due.NO_WHAT, () -> most.moment(27));
        int[] wrong = {-1, 28, MIN, MAX};
        for (int k : wrong) {
            Due.refuses("moment " + k, Due.NO_WHAT, () -> nine.moment(k));
            Due.refuses("moment " + k + " of the most", Due.NO_WHAT, () -> most.moment(k));
        }
    }

    private static void layBehindTheLast() {
        Due.says("The number of the MOMENT at a place (from 0 on) of THE LEAST LAYING; NONE without such a place. "
                + "IllegalStateException.");
        InnNight nine = Due.inn(9);
        Due.due("the last place", nine.lay(8), 8);
        int[] none = {9, -1, 10, MIN, MAX};
        for (int place : none) {
            Due.due("place " + place, nine.lay(place), -1);
        }
        InnNight ring = Due.inn(4, RING);
        int[] places = {0, -1, 9, MIN, MAX};
        for (int place : places) {
            Due.refuses("place " + place + " of a ring", Due.NOT_LAID, () -> ring.lay(place));
        }
    }

    private static void staysOfOne() {
        Due.says("The place of the first (last false) or the last MOMENT of a GUEST there. IllegalStateException.");
        InnNight x = Due.inn(6, PATH);
        int[] first = {0, 0, 1, 2, 3, 4};
        int[] last = {0, 1, 2, 3, 3, 4};
        for (int guest = 0; guest < 6; guest++) {
            Due.due("first of " + guest, x.stays(guest, false), first[guest]);
            Due.due("last of " + guest, x.stays(guest, true), last[guest]);
        }
        InnNight star = Due.inn(9, "met 8 0;met 8 1;met 8 2;met 8 3;met 8 4;met 8 5;met 8 6;met 8 7");
        Due.due("first of the whole night", star.stays(8, false), 0);
        Due.due("last of the whole night", star.stays(8, true), 7);
        Due.due("one moment at the end", star.stays(7, false), 7);
        InnNight ring = Due.inn(4, RING);
        Due.refuses("first of a ring", Due.NOT_LAID, () -> ring.stays(0, false));
        Due.refuses("last of a ring", Due.NOT_LAID, () -> ring.stays(3, true));
    }

    private static void cannotBeLaid() {
        Due.says("IllegalStateException: it cannot be laid.");
        InnNight x = Due.inn(4, RING);
        Due.refuses("lay", Due.NOT_LAID, () -> x.lay(0));
        Due.refuses("stays", Due.NOT_LAID, () -> x.stays(0, false));
        Due.refuses("node", Due.NOT_LAID, () -> x.node(0, 0));
        Due.refuses("between", Due.NOT_LAID, () -> x.between(0, 0, 0) ? 1 : 0);
        Due.refuses("room", Due.NOT_LAID, () -> x.room(0));
        Due.refuses("rooms", Due.NOT_LAID, () -> x.rooms());
        Due.due("count throws not", x.count(), 0);
        Due.due("obey throws not", x.obey(), 0);
        Due.due("span throws not", x.span(0, false), -1);
        Due.due("must throws not", x.must(0, 2), -1);
        x.strike(0, true);
        Due.due("laid once it can be", x.lay(0) + x.stays(0, false) + x.room(3), 2);
        x.strike(0, false);
        Due.refuses("lay again", Due.NOT_LAID, () -> x.lay(0));
    }

    private static void ringWithoutOne() {
        Due.says("THE RING, as bits; 0 without one.");
        Due.due("no guests", new InnNight().ring(), 0);
        Due.due("three guests", Due.inn(3).ring(), 0);
        Due.due("nine who met", Due.inn(9, allMet(9)).ring(), 0);
        Due.due("a net", Due.inn(6, NET).ring(), 0);
        Due.due("the ring of twenty-seven moments", Due.inn(9, threeThrees()).ring(), 27);
        Due.due("the greatest bits", Due.inn(9, "met 5 6;met 6 7;met 7 8;met 8 5").ring(), 480);
    }

    private static void threeOfAnother() {
        Due.says("GUEST k (0 to 2) of THE THREE; NONE without one, or for another k.");
        InnNight x = Due.inn(9, "met 2 3;met 2 4;met 2 5;met 3 6;met 4 7;met 5 8");
        int[] want = {6, 7, 8};
        for (int k = 0; k < 3; k++) {
            Due.due("three " + k, x.three(k), want[k]);
        }
        int[] none = {-1, 3, 4, 32, MIN, MAX};
        for (int k : none) {
            Due.due("three " + k, x.three(k), -1);
        }
        for (int k = 0; k < 3; k++) {
            Due.due("three " + k + " without one", Due.inn(9).three(k), -1);
        }
    }

    private static void smallWithoutOne() {
        Due.says("who taken alone cannot be laid; 0, if all can.");
        Due.due("no guests", new InnNight().small(), 0);
        Due.due("three guests", Due.inn(3).small(), 0);
        Due.due("a ring with one more meeting", Due.inn(4, RING + ";met 0 2").small(), 0);
        InnNight x = Due.inn(4, RING);
        Due.due("a ring", x.small(), 15);
        x.strike(3, true);
        Due.due("a ring cut open", x.small(), 0);
    }

    private static void checkBits() {
        Due.says("Of GUESTS told as bits (those of none count for nothing), taken alone");
        InnNight x = Due.inn(4, RING);
        int[] rings = {15, 15 | 16, 15 | 512, -1, MAX, 15 | MIN, ~16};
        for (int set : rings) {
            Due.due("check " + set, x.check(set), 1);
        }
        int[] none = {0, 16, 512, MIN, ~15, 14, 7, 8 | MIN};
        for (int set : none) {
            Due.due("check " + set, x.check(set), 0);
        }
        Due.due("no guests", new InnNight().check(-1), 0);
    }

    private static void checkAnswers() {
        Due.says("0 they can be laid; 1 they are a RING; 2 they cannot, but without any one of them the others can; 3 "
                + "they cannot otherwise.");
        InnNight x = Due.inn(9, NET + ";met 5 6;met 6 7;met 7 8;met 8 5");
        Due.due("the net", x.check(63), 2);
        Due.due("the net without one", x.check(62), 0);
        Due.due("the ring", x.check(480), 1);
        Due.due("the ring without one", x.check(448), 0);
        Due.due("the net and one more", x.check(127), 3);
        Due.due("the ring and one more", x.check(481), 3);
        Due.due("all", x.check(511), 3);
        Due.due("a ring of nine",
                Due.inn(9, PATH + ";met 4 5;met 5 6;met 6 7;met 7 8;met 8 0").check(511), 1);
        Due.due("a spider", Due.inn(7, SPIDER).check(127), 2);
        Due.due("one who breaks it, and others who do not", Due.inn(5, RING + ";met 3 4").check(31), 3);
    }

    private static void countOfNone() {
        Due.says("COUNT; 0 if it cannot be laid.");
        Due.due("a ring", Due.inn(4, RING).count(), 0);
        Due.due("a net", Due.inn(6, NET).count(), 0);
        Due.due("twenty-seven moments", Due.inn(9, threeThrees()).count(), 0);
        Due.due("no guests", new InnNight().count(), 1);
    }

    private static void nodeAnswers() {
        Due.says("Of a NODE what 0 its KIND, 1 its MOMENTS as bits, 2 the NODE of which it is a PART (NONE), 3 how many "
                + "PARTS it has;");
        InnNight x = Due.inn(5, "met 0 1;met 0 2;met 1 3");
        nodeIs(x, 0, 1, 15, -1, 2);
        nodeIs(x, 1, 2, 7, 0, 3);
        nodeIs(x, 2, 0, 2, 1, 0);
        nodeIs(x, 3, 0, 1, 1, 0);
        nodeIs(x, 4, 0, 4, 1, 0);
        nodeIs(x, 5, 0, 8, 0, 0);
    }

    private static void nodeOfNone() {
        Due.says("NONE for all if there is no such NODE.");
        InnNight x = Due.inn(9);
        int[] none = {-1, 10, 17, 18, MIN, MAX};
        for (int k : none) {
            nodeIs(x, k, -1, -1, -1, -1);
        }
        nodeIs(x, 9, 0, 256, 0, 0);
        nodeIs(new InnNight(), 0, -1, -1, -1, -1);
    }

    private static void nodeOfAnother() {
        Due.says("IllegalStateException; NoSuchElementException: another what.");
        InnNight x = Due.inn(2);
        InnNight ring = Due.inn(4, RING);
        int[] none = {-1, 4, MIN, MAX};
        for (int what : none) {
            Due.refuses("node 0 " + what, Due.NO_WHAT, () -> x.node(0, what));
            Due.refuses("node 3 " + what, Due.NO_WHAT, () -> x.node(3, what));
            Due.refuses("node 0 " + what + " of no guests", Due.NO_WHAT, () -> new InnNight().node(0, what));
            Due.refuses("node 0 " + what + " of a ring", Due.NOT_LAID, () -> ring.node(0, what));
        }
        Due.refuses("node -1 of a ring", Due.NOT_LAID, () -> ring.node(-1, 0));
    }

    private static void betweenOthers() {
        Due.says("BETWEEN; false of others. IllegalStateException.");
        InnNight x = Due.inn(5, PATH);
        Due.due("one told thrice", x.between(2, 2, 2), false);
        Due.due("the first is the second", x.between(0, 0, 4), false);
        Due.due("the first is the last", x.between(0, 2, 0), false);
        Due.due("the second is the last", x.between(0, 4, 4), false);
        Due.due("the first two met", x.between(0, 1, 3), false);
        Due.due("the last two met", x.between(0, 3, 4), false);
        Due.due("the outer two met", x.between(0, 2, 1), false);
        InnNight ring = Due.inn(4, RING);
        Due.refuses("of a ring", Due.NOT_LAID, () -> ring.between(0, 1, 2) ? 1 : 0);
        Due.refuses("others of a ring", Due.NOT_LAID, () -> ring.between(1, 1, 1) ? 1 : 0);
    }
}
