import java.util.Random;
import java.util.regex.Matcher;
import java.util.regex.Pattern;

/** Texts of memories: promises 5, 6 and 7, with the first wrong byte of every kind of wrong text. */
public final class TextTest {

    public static void main(String[] args) {
        rightTexts();
        wrongTexts();
        wrongBytes();
        whatIsKept();
        tooMany();
        byLot();
        Due.close();
    }

    private static void right(int guests, String text, int want) {
        InnNight x = Due.inn(guests);
        Due.due("memory of [" + text + "]", Due.tell(x, text), want);
        Due.due("fault of [" + text + "]", x.fault(), -1);
        Due.due("sum(1) of [" + text + "]", x.sum(1), want);
    }

    private static void wrong(int guests, String text, int fault) {
        InnNight x = Due.inn(guests);
        Due.tape(x, text);
        Due.refuses("memory of [" + text + "]", IllegalArgumentException.class, () -> x.memory());
        Due.due("fault of [" + text + "]", x.fault(), fault);
        Due.due("sum(1) of [" + text + "]", x.sum(1), 0);
        Due.due("the tape of [" + text + "] is used up", x.end(1), false);
    }

    private static void rightTexts() {
        right(0, "", 0);
        right(0, "   ", 0);
        right(2, "met 0 1", 1);
        right(2, "  met  0  1  ", 1);
        right(2, "met0 1", 1);
        right(2, "met00 01by1sure5;apart1 0sure99", 2);
        right(2, "met 0 1;apart 0 1 ; open 1 0;ahead 0 1", 4);
        right(2, "met 0 1 by 0", 1);
        right(2, "met 0 1 by 01 sure 01", 1);
        right(9, "ahead 8 7 sure 99", 1);
        right(9, "met 0 1by2sure3;met3 4sure5", 2);
    }

    private static void wrongTexts() {
        wrong(2, ";", 0);
        wrong(2, " ;", 1);
        wrong(2, "met 0 1;", 8);
        wrong(2, "met 0 1; ", 9);
        wrong(2, "met 0 1;;met 0 1", 8);
        wrong(2, "me", 0);
        wrong(2, "metx 0 1", 0);
        wrong(2, "metz 0 1", 0);
        wrong(2, "ameta 0 1", 0);
        wrong(2, "met{0 1", 3);
        wrong(2, "met`0 1", 3);
        wrong(2, "met/0 1", 3);
        wrong(2, "met:0 1", 3);
        wrong(2, "met", 3);
        wrong(2, "met  ", 5);
        wrong(2, "met ;", 4);
        wrong(2, "met 0", 5);
        wrong(2, "met 01", 6);
        wrong(2, "met 0 0", 6);
        wrong(2, "met 0 00", 6);
        wrong(2, "met 0 2", 6);
        wrong(2, "met 2 0", 4);
        wrong(2, "met 000 1", 4);
        wrong(2, "met 0 001", 6);
        wrong(2, "met 0 1 1", 8);
        wrong(2, "met 0 1 met 0 1", 8);
        wrong(2, "met by 0", 4);
        wrong(2, "by 0", 0);
        wrong(2, "sure 5", 0);
        wrong(2, "0 1", 0);
        wrong(2, "met 0 1 by", 10);
        wrong(2, "met 0 1 by 2", 11);
        wrong(2, "met 0 1 by;", 10);
        wrong(2, "met 0 1 bye 1", 8);
        wrong(2, "met 0 1 by 1 by 1", 13);
        wrong(2, "met 0 1 by sure 1", 11);
        wrong(2, "met 0 1 sure", 12);
        wrong(2, "met 0 1 sure 0", 13);
        wrong(2, "met 0 1 sure 00", 13);
        wrong(2, "met 0 1 sure 100", 13);
        wrong(2, "met 0 1 sure 5 by 1", 15);
        wrong(2, "met 0 1 sure 5 5", 15);
        wrong(2, "met 0 1 sure5 sure6", 14);
        wrong(2, "met 0 1bysure", 7);
        wrong(2, "Met 0 1", 0);
        wrong(2, "mEt 0 1", 0);
        wrong(2, "met\t0 1", 3);
        wrong(2, "met 0,1", 5);
        wrong(2, "met 0 -1", 6);
        wrong(2, "met 0 1.", 7);
        wrong(2, "met 0 1 sure 5x", 14);
        wrong(0, "met 0 1", 4);
    }

    /** Where a LINE is due, each byte but a blank and the begin of a word cannot stand there. */
    private static void wrongBytes() {
        for (int sign = 0; sign < 256; sign++) {
            InnNight x = Due.inn(2);
            Due.tape(x, 'm', 'e', 't', ' ', '0', ' ', '1', sign, ' ');
            boolean isRight = sign == ' ';
            boolean isDigit = sign >= '0' && sign <= '9';
            if (isRight) {
                Due.due("memory with byte " + sign, x.memory(), 1);
            } else {
                Due.refuses("memory with byte " + sign, IllegalArgumentException.class, () -> x.memory());
            }
            int want = isRight ? -1 : isDigit ? 6 : sign == ';' ? 9 : 7;
            Due.due("fault with byte " + sign, x.fault(), want);
        }
    }

    private static void whatIsKept() {
        InnNight x = Due.inn(3);
        Due.due("fault ahead of any text", x.fault(), -1);
        Due.due("memory", Due.tell(x, "ahead 2 0 by 1 sure 7;open 1 2"), 2);
        int[][] want = {{3, 2, 0, 1, 7, 1, 1}, {2, 1, 2, -1, 50, 1, 1}};
        for (int m = 0; m < 2; m++) {
            for (int what = 0; what < 7; what++) {
                Due.due("about " + m + " " + what, x.about(m, what), want[m][what]);
            }
        }
        Due.tape(x, "met 0 1;met 0 3");
        Due.refuses("a wrong text", IllegalArgumentException.class, () -> x.memory());
        Due.due("fault", x.fault(), 14);
        Due.due("none of it came", x.sum(1), 2);
        Due.due("a right text", Due.tell(x, "met 0 1"), 1);
        Due.due("fault is of the latest text", x.fault(), -1);
        Due.tape(x, "m");
        Due.refuses("a wrong text", IllegalArgumentException.class, () -> x.memory());
        Due.due("an empty text", x.memory(), 0);
        Due.due("fault of the empty text", x.fault(), -1);
    }

    private static String times(int many, String line) {
        StringBuilder text = new StringBuilder();
        for (int k = 0; k < many; k++) {
            text.append(k == 0 ? "" : ";").append(line);
        }
        return text.toString();
    }

    private static void tooMany() {
        InnNight x = Due.inn(2);
        Due.tape(x, times(41, "met0 1"));
        Due.refuses("41 at once", UnsupportedOperationException.class, () -> x.memory());
        Due.due("fault of a right text that is refused", x.fault(), -1);
        Due.due("none came", x.sum(1), 0);
        Due.due("the tape is used up", x.end(1), false);
        Due.tape(x, times(57, "met0 1"));
        Due.refuses("57 at once", UnsupportedOperationException.class, () -> x.memory());
        Due.tape(x, times(56, "met0 1") + ";met0 0");
        Due.refuses("wrong behind too many", IllegalArgumentException.class, () -> x.memory());
        Due.due("fault behind too many", x.fault(), 397);
        Due.due("40 at once", Due.tell(x, times(40, "met0 1")), 40);
        Due.due("about 39", x.about(39, 6), 1);
        Due.refuses("about 40", IndexOutOfBoundsException.class, () -> x.about(40, 0));
        Due.tape(x, "met0 1");
        Due.refuses("41st", UnsupportedOperationException.class, () -> x.memory());
        Due.due("no line at 40", Due.tell(x, " "), 0);
        InnNight y = Due.inn(2, times(39, "apart 0 1"));
        Due.tape(y, "met 0 1;met 0 1");
        Due.refuses("39 and 2", UnsupportedOperationException.class, () -> y.memory());
        Due.due("39 are left", y.sum(1), 39);
        Due.due("39 and 1", Due.tell(y, "met 0 1"), 1);
    }

    /** Texts of the grammar's signs by lot: a pattern tells which are right, and where the first wrong begin is. */
    private static void byLot() {
        String[] bits = {"met", "apart", "open", "ahead", "by", "sure", "0", "1", "2", "10", "99", "123", " ", " ",
            "  ", ";", "x", "."};
        Pattern line = Pattern.compile(
                " *(?:met|apart|open|ahead) *0?([0-2])(?!\\d) *(?!0?\\1(?!\\d))0?[0-2](?!\\d) *(?:by *0?[0-2](?!\\d) *)?"
                + "(?:sure *(?!00?(?!\\d))\\d\\d?(?!\\d) *)?");
        Random random = new Random(5L);
        int rightOnes = 0;
        for (int n = 0; n < 20000; n++) {
            StringBuilder text = new StringBuilder();
            if (random.nextInt(3) != 0) {
                text.append(bits[random.nextInt(4)]).append(" 0 1 ");
            }
            for (int k = random.nextInt(7); k > 0; k--) {
                text.append(bits[random.nextInt(bits.length)]);
            }
            boolean isRight = isRight(line, text.toString());
            rightOnes += isRight ? 1 : 0;
            InnNight x = Due.inn(3);
            Due.tape(x, text.toString());
            int came = -1;
            try {
                came = x.memory();
            } catch (IllegalArgumentException refused) {
                came = -2;
            }
            Due.due("whether [" + text + "] is right", came != -2, isRight);
            Due.due("whether [" + text + "] has no wrong byte", x.fault() == -1, isRight);
        }
        Due.due("right texts came by lot", rightOnes > 500 && rightOnes < 19500, true);
    }

    private static boolean isRight(Pattern line, String text) {
        if (text.trim().isEmpty()) {
            return true;
        }
        for (String one : text.split(";", -1)) {
            Matcher matcher = line.matcher(one);
            if (!matcher.matches()) {
                return false;
            }
        }
        return true;
    }
}
