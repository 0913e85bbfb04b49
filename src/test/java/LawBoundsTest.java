/** Promises 7 to 9 at their bounds: bytes, the tape's end, what may stand behind what, ints that wrap, and sounds. */
public final class LawBoundsTest {
    private static final String OPERANDS = "0123456789ldwpsk", AHEAD = "(!-", SIGNS = "|&<=>+-*/%";
    private static final String HIGHEST = "(2147*1000*1000+483*1000+647)", LOWEST = "(-2147*1000*1000-483*1000-648)";
    private static final Check check = new Check();

    public static void main(String[] args) {
        bytesThatAreTaken();
        theTapesEnd();
        whatMayStandBehindWhat();
        digits();
        sixAreOpen();
        faultsOfEarlyEnds();
        lawsStayOrGo();
        whichLineCounts();
        aTextOfTheLongest();
        wraps();
        dividing();
        oneOrNought();
        namesAtTheirBounds();
        withoutATextAtItsBounds();
        heightsAtTheirBounds();
        soundsAtTheirBounds();
        check.end();
    }

    private static void bytesThatAreTaken() {
        BellTrees x = new BellTrees();
        int[] letters = {-1, 0, 1, 127, 128, 254, 255, 256, 257, Integer.MAX_VALUE, Integer.MIN_VALUE};
        int many = 0;
        for (int letter : letters) {
            boolean may = letter >= 0 && letter <= 255;
            many += may ? 1 : 0;
            check.due("feed " + letter, x.feed(letter), may ? many : -1);
            check.due("bytes", x.count(2), many);
        }
        check.due("none is a sign", x.law(), -100);
        check.due("the tape is empty", x.count(2), 0);
        check.due("an empty tape", x.law(), -100);
    }

    private static void theTapesEnd() {
        BellTrees x = new BellTrees();
        for (int i = 1; i <= 120; i++) {
            check.due("feed", x.feed(i % 2 == 1 ? 'l' : '+'), i);
        }
        check.due("the 121st", x.feed('l'), -3);
        check.due("the 121st, no byte", x.feed(256), -1);
        check.due("120", x.count(2), 120);
        check.due("it ends too early", x.law(), -220);
        for (int i = 1; i <= 119; i++) {
            check.due("feed", x.feed(i % 2 == 1 ? 'l' : '+'), i);
        }
        check.due("the 120th", x.feed('l'), 120);
        check.due("the last byte is at fault", x.law(), -219);
        check.due("from the start", x.feed('l'), 1);
        check.due("a law", x.law(), 1);
    }

    /** Each of the 256 bytes behind a text: it goes on so, or the byte is at fault. */
    private static void whatMayStandBehindWhat() {
        behind("", OPERANDS, AHEAD);
        behind("!", OPERANDS, AHEAD);
        behind("-", OPERANDS, AHEAD);
        behind("(", "", AHEAD + OPERANDS);
        behind("((((((", "", OPERANDS);
        behind("!!!!!!", OPERANDS, "");
        behind("------", OPERANDS, "");
        behind("!!!!!", OPERANDS, AHEAD);
        behind("l", "", SIGNS + "?;");
        behind("1", "0123456789", SIGNS + "?;");
        behind("123", "0123456789", SIGNS + "?;");
        behind("1234", "", SIGNS + "?;");
        behind("!l", "", SIGNS + "?;");
        behind("(l)", "", SIGNS + "?;");
        behind("(l", ")", SIGNS);
        behind("(1234", ")", SIGNS);
        behind("(1", ")", SIGNS + "0123456789");
        behind("l?", OPERANDS, AHEAD);
        behind("l;", OPERANDS, AHEAD);
        behind("l?l", "", SIGNS + ";");
        behind("l;l", "", SIGNS + "?;");
        behind("l?l;l", "", SIGNS + "?;");
        behind("l?l;l?l", "", SIGNS + ";");
        for (char sign : SIGNS.toCharArray()) {
            behind("l" + sign, OPERANDS, AHEAD);
            boolean compares = "<=>".indexOf(sign) >= 0;
            String more = compares ? "|&+-*/%" : SIGNS;
            behind("l" + sign + "l", "", more + "?;");
            behind("l?l" + sign + "l", "", more + ";");
            behind("(l" + sign + "l", ")", more);
            behind("l?l" + sign + "l;l", "", SIGNS + "?;");
        }
        behind("l<l&l", "", SIGNS + "?;");
        behind("l<l|l", "", SIGNS + "?;");
        behind("l<l+l", "", "|&+-*/%?;");
        behind("l+l<l", "", "|&+-*/%?;");
        behind("(l<l)", "", SIGNS + "?;");
        behind("l<(l<l)", "", "|&+-*/%?;");
        behind("l<l?l", "", SIGNS + ";");
    }

    /** Behind a text each sign of ends makes a text, each of goesOn one that ends too early, and any other is at fault. */
    private static void behind(String text, String ends, String goesOn) {
        BellTrees x = new BellTrees();
        int calls = 0;
        for (int letter = 0; letter < 256; letter++) {
            calls += text.length() + 2;
            if (calls > 500) {
                x = new BellTrees();
                calls = text.length() + 2;
            }
            int due = -100 - text.length();
            if (ends.indexOf(letter) >= 0) {
                due = 1;
            } else if (goesOn.indexOf(letter) >= 0) {
                due--;
            }
            for (char sign : text.toCharArray()) {
                x.feed(sign);
            }
            x.feed(letter);
            check.due("byte " + letter + " behind " + text, x.law(), due);
        }
    }

    private static void digits() {
        law("0", 1);
        law("9999", 1);
        law("0000", 1);
        law("00000", -104);
        law("99999", -104);
        law("1+99999", -106);
        law("99999+", -104);
        hears("9999=10*1000-1", true);
        hears("0009=9", true);
        hears("0000", false);
        hears("0001", true);
    }

    private static void law(String text, int due) {
        BellTrees x = new BellTrees();
        check.due("law of " + text, Check.law(x, text), due);
        check.due("the tape is empty then", x.count(2), 0);
    }

    /** Of any of ( ! - six may be open at once, and those that are closed are so no more. */
    private static void sixAreOpen() {
        for (int bits = 0; bits < 729; bits++) {
            StringBuilder ahead = new StringBuilder();
            StringBuilder behind = new StringBuilder();
            for (int i = 0, left = bits; i < 6; i++, left /= 3) {
                ahead.append(AHEAD.charAt(left % 3));
                behind.append(left % 3 == 0 ? ")" : "");
            }
            law(ahead + "l" + behind, 1);
            char more = AHEAD.charAt(bits % 3);
            law(ahead.toString() + more + "l" + behind, -106);
            if (behind.length() == 6) {
                law(ahead + "l+" + more + "l))))))", -108);
            }
        }
        law("(((((l)))))+((((((l))))))", 1);
        law("((((((l))))))+((((((l))))))", 1);
        law("((((((l))))))+(((((((l", -120);
        law("!!!!!!l+!!!!!!l", 1);
        law("!!!!!!l+!!!!!!!l", -114);
        law("(!!!!!l+!!!!!l)", 1);
        law("(!!!!!l+!!!!!!l)", -113);
        law("((((((l+l<l&l|l))))))", 1);
        law("((((((l?l))))))", -107);
        law("l?((((((l))))));((((((l))))))?l", 1);
        law("l?(((((((l", -108);
        law("l;(((((((l", -108);
    }

    private static void faultsOfEarlyEnds() {
        String[] texts = {"", "l+", "l?", "l;", "(", "(l", "(l+", "!", "-", "((((((l)))))", "l?l;", "l?l;l?", "1234*", "(1234"};
        for (String text : texts) {
            law(text, -100 - text.length());
        }
        law(")", -100);
        law("l)", -101);
        law("(l))", -103);
        law("()", -101);
        law(";l", -100);
        law("?l", -100);
        law("l;;", -102);
        law("l??", -102);
        law(" l", -100);
        law("l ", -101);
        law("l +l", -101);
    }

    /** A text with a fault is none: the law stands as it was, and an empty tape is too early an end. */
    private static void lawsStayOrGo() {
        BellTrees x = new BellTrees();
        x.tree(195);
        check.due("a law by which nothing is heard", Check.law(x, "0"), 1);
        check.due("nothing is heard", x.sound(0, 0, 0), -1);
        check.due("an empty tape", x.law(), -100);
        check.due("nothing is heard", x.sound(0, 0, 0), -1);
        check.due("a law by which all is heard", Check.law(x, "1"), 1);
        check.due("all is heard", x.sound(0, 0, 0), 1);
        x.feed('0');
        check.due("what is on the tape is no law yet", x.sound(0, 0, 0), 1);
        check.due("now it is", x.law(), 1);
        check.due("nothing is heard", x.sound(0, 0, 0), -1);
        check.due("no fault", Check.law(x, "1"), 1);
        check.due("a shorter one behind a longer one", Check.law(x, "0?1;0?1;0"), 1);
        check.due("nothing is heard", x.sound(0, 0, 0), -1);
        check.due("a shorter one behind a longer one", Check.law(x, "p"), 1);
        check.due("all is heard", x.sound(0, 0, 0), 1);
    }

    private static BellTrees heard(String text) {
        BellTrees x = new BellTrees();
        x.tree(345);
        check.due("law of " + text, Check.law(x, text), 1);
        return x;
    }

    private static void hears(String text, boolean so) {
        check.due("sound by " + text, heard(text).sound(0, 0, 0), so ? 3 : -1);
    }

    private static void whichLineCounts() {
        hears("0", false);
        hears("-1", true);
        hears("0;1", false);
        hears("1;0", true);
        hears("0?1", false);
        hears("0?1;0?1", false);
        hears("0?1;0", false);
        hears("0?1;7", true);
        hears("1?0;1", false);
        hears("-1?1;0", true);
        hears("-1?0;1", false);
        hears("0?1;1?0;1?1", false);
        hears("0?0;1?1;0", true);
        hears("0?0;0?0;1?5;0", true);
    }

    private static void aTextOfTheLongest() {
        StringBuilder lines = new StringBuilder();
        for (int i = 0; i < 29; i++) {
            lines.append("0?1;");
        }
        hears(lines + "1?10", true);
        hears(lines + "1?00", false);
        hears(lines + "0?11", false);
        hears(lines + "0001", true);
        hears(lines + "0000", false);
        StringBuilder short60 = new StringBuilder("0");
        while (short60.length() < 119) {
            short60.append(";1");
        }
        hears(short60.toString(), false);
        law(short60 + ";", -220);
        StringBuilder sum = new StringBuilder("60=1");
        while (sum.length() < 118) {
            sum.append("+1");
        }
        hears(sum.toString(), false);
        hears(sum.toString().replace("60=", "58="), true);
        StringBuilder deep = new StringBuilder("1=0");
        while (deep.length() < 115) {
            deep.append("|1=0");
        }
        hears(deep + "|1", true);
        hears(deep + "|0", false);
    }

    /** Each must be as told, by ints that wrap. */
    private static void wraps() {
        String[] right = {"H>0", "L<0", "H+1=L", "L-1=H", "H+1<0", "L-1>0", "-L=L", "-H=L+1", "L*-1=L", "H*2=-2", "L*2=0", "L+L=0",
            "H+H=-2", "L/-1=L", "L%-1=0", "H-L=-1", "L-H=1", "L<H", "H>L", "!L=0", "!H=0", "--L=L", "-L<0", "L/1=L", "H/-1=L+1"};
        for (String text : right) {
            hears(text.replace("H", HIGHEST).replace("L", LOWEST), true);
            hears("!(" + text.replace("H", HIGHEST).replace("L", LOWEST) + ")", false);
        }
        hears("1024*1024*1024*4", false);
        hears("1024*1024*1024*2", true);
        hears("1024*1024*1024*2<0", true);
        // It is 0xE8C2C3E22F, and its lowest 32 bits are an int below 0.
        hears("9999*9999*9999<0", true);
    }

    private static void dividing() {
        String[] right = {"7/2=3", "-7/2=-3", "7/-2=-3", "-7/-2=3", "7%2=1", "-7%2=-1", "7%-2=1", "-7%-2=-1", "1/2=0", "-1/2=0",
            "1%2=1", "-1%2=-1", "6/3=2", "6%3=0", "7/0=0", "-7/0=0", "0/0=0", "7%0=0", "-7%0=0", "0%0=0", "0/7=0", "0%7=0",
            "7/(1-1)=0", "7%(1-1)=0", "1+7/0*5=1", "1+7%0=1"};
        for (String text : right) {
            hears(text, true);
            hears("(" + text + ")?0;1", false);
        }
        hears("7/0", false);
        hears("7%0", false);
        hears("7/0|1", true);
    }

    private static void oneOrNought() {
        for (int a = -2; a <= 2; a++) {
            for (int b = -2; b <= 2; b++) {
                is(a, "|", b, a != 0 || b != 0);
                is(a, "&", b, a != 0 && b != 0);
                is(a, "<", b, a < b);
                is(a, "=", b, a == b);
                is(a, ">", b, a > b);
            }
            hears("(!" + text(a) + ")=" + (a == 0 ? 1 : 0), true);
            hears("(!!" + text(a) + ")=" + (a == 0 ? 0 : 1), true);
            hears("(-" + text(a) + ")+" + text(a) + "=0", true);
        }
    }

    private static String text(int v) {
        return v < 0 ? "(" + v + ")" : "" + v;
    }

    private static void is(int a, String sign, int b, boolean so) {
        hears("(" + text(a) + sign + text(b) + ")=" + (so ? 1 : 0), true);
        hears(text(a) + sign + text(b), so);
    }

    private static void namesAtTheirBounds() {
        for (int of = 0; of < 6; of++) {
            for (boolean highest : new boolean[] {false, true}) {
                BellTrees x = new BellTrees();
                int v = highest ? 9 : 0;
                x.tree(110 * v + 5);
                x.mend(23, 4, v);
                x.mend(0, 6, v);
                x.mend(0, 7, highest ? 1 : 0);
                int sort = highest ? 3 : 0;
                char name = "ldwpsk".charAt(of);
                Check.law(x, name + "=" + (of == 5 ? sort : v));
                check.due("sound by " + name, x.sound(sort, 0, 23), v);
                Check.law(x, name + "=" + (of == 5 ? sort - 1 : v - 1));
                check.due("no sound by " + name, x.sound(sort, 0, 23), -1);
            }
        }
        BellTrees x = new BellTrees();
        x.tree(195);
        Check.law(x, "w=2");
        x.mend(23, 4, 3);
        x.mend(0, 4, 1);
        check.due("the WIND of the minute ahead", x.sound(0, 0, 22), 1);
        check.due("the WIND of the last minute", x.sound(0, 0, 23), -1);
        check.due("the WIND of the first minute", x.sound(0, 0, 0), -1);
        check.due("the WIND of the second minute", x.sound(0, 0, 1), 1);
    }

    /** l more than d, w / 2 (cut) and s together; as much is not enough. */
    private static void withoutATextAtItsBounds() {
        for (int wind = 0; wind < 10; wind++) {
            for (int snow = 0; snow < 10; snow++) {
                int needed = wind / 2 + snow;
                BellTrees x = new BellTrees();
                x.tree(105);
                x.tree(105);
                x.path(1);
                x.mend(0, 4, wind);
                x.mend(0, 6, snow);
                for (int far = 0; far < 2; far++) {
                    if (needed + far < 10) {
                        x.mend(far, 1, needed + far);
                        check.due("as loud as that", x.sound(0, far, 0), -1);
                    }
                    x.mend(far, 1, 9);
                    check.due("the loudest", x.sound(0, far, 0), needed + far < 9 ? 1 : -1);
                    if (needed + far < 9) {
                        x.mend(far, 1, needed + far + 1);
                        check.due("one louder", x.sound(0, far, 0), 1);
                    }
                }
            }
        }
        BellTrees x = new BellTrees();
        x.tree(105);
        x.tree(195);
        x.mend(0, 4, 0);
        check.due("LOUD 0, all still", x.sound(0, 0, 0), -1);
        check.due("no way to it", x.sound(0, 1, 0), -1);
    }

    private static void heightsAtTheirBounds() {
        for (int height = 0; height < 10; height++) {
            for (int hangs = 0; hangs < 10; hangs++) {
                BellTrees x = new BellTrees();
                x.tree(190 + hangs);
                x.mend(3, 5, height);
                check.due("hangs " + hangs + " height " + height, x.sound(3, 0, 0), hangs <= height ? 1 : -1);
                check.due("hangs " + hangs + " height 5", x.sound(2, 0, 0), hangs <= 5 ? 1 : -1);
                x.mend(0, 3, 0);
                check.due("not there", x.sound(3, 0, 0), -1);
            }
        }
    }

    private static void soundsAtTheirBounds() {
        BellTrees x = new BellTrees();
        for (int t = 0; t < 8; t++) {
            check.due("not there yet", x.sound(0, t, 0), -2000000000);
            x.tree(100 * (t + 2) + 95 - 100 * (t / 4));
            for (int sort = -1; sort <= 4; sort++) {
                for (int minute : new int[] {-1, 0, 23, 24}) {
                    boolean may = sort >= 0 && sort <= 3 && minute >= 0 && minute <= 23;
                    int due = t == 0 ? 2 : -1;
                    check.due("sound at " + t, x.sound(sort, t, minute), may ? due : -2000000000);
                }
            }
        }
        Check.law(x, "1");
        for (int t = 0; t < 8; t++) {
            check.due("heard at " + t, x.sound(3, t, 23), t + 2 - t / 4);
        }
        check.due("no ninth", x.sound(3, 8, 23), -2000000000);
        x.mend(7, 0, 0);
        check.due("PITCH 0 is a sound", x.sound(0, 7, 0), 0);
        x.mend(7, 0, 9);
        check.due("PITCH 9", x.sound(0, 7, 0), 9);
        x.mend(7, 3, 0);
        check.due("silent", x.sound(0, 7, 0), -1);
    }
}
