import java.util.Random;

/** Promises 7 to 9: the tape, the law, the sound. */
public final class LawTest {
    private static final Check check = new Check();

    public static void main(String[] args) {
        feeding();
        faults();
        withoutAText();
        lines();
        values();
        soundRefused();
        theBellItself();
        randomTexts();
        randomFaults();
        check.end();
    }

    private static void feeding() {
        BellTrees x = new BellTrees();
        check.due("below 0", x.feed(-1), -1);
        check.due("above 255", x.feed(256), -1);
        for (int i = 1; i <= 120; i++) {
            check.due("feed", x.feed(i == 1 ? 'l' : i == 2 ? 255 : 0), i);
        }
        check.due("full", x.feed('l'), -3);
        check.due("bad ahead of full", x.feed(256), -1);
        check.due("bytes", x.count(2), 120);
        check.due("a byte that is no sign", x.law(), -101);
        check.due("the tape is empty", x.count(2), 0);
        check.due("it begins anew", x.feed('l'), 1);
        check.due("a law", x.law(), 1);
        check.due("the tape is empty", x.count(2), 0);
        StringBuilder text = new StringBuilder("1");
        while (text.length() < 119) {
            text.append("+1");
        }
        check.due("119 bytes", Check.law(x, text.toString()), 1);
        check.due("120 bytes, too early", Check.law(x, text + "+"), -220);
        check.due("120 bytes", Check.law(x, text + "1"), 1);
    }

    private static void faults() {
        BellTrees x = new BellTrees();
        String[] texts = {"", ";", "?", "l;", "l;;l", "l?", "l?;", "l?d?w", "l?d;w", "l?d;?w", "ll", "l d", "1234", "12345", "00001",
            "12l", "l<d<w", "l<d=w", "(l<d)<w", "l<(d<w)", "l<d+w>s", "l<d&d<w", "l&&d", "l|", "l||d", "l+", "l--d", "l+-d",
            "l++d", "!l", "!!l", "l!", "l!d", "-l", "-", "()", "(l", "(l))", "l)", "(l?d)", "(l;d)", "(l,d)", "a", "L", "l*/d",
            "((((((l))))))", "(((((((l", "!!!!!!l", "!!!!!!!l", "-!-!-!l", "-!-!-!-l", "(!(-(!l)))", "(!(-(!(l", "(!(-(!-l",
            "(((((l+!d)))))", "(((((l+!-d", "((((((l+-d", "!l&!l&!l&!l&!l&!l&!l&!l", "(l)+(l)+(l)+(l)+(l)+(l)+(l)+(l)",
            "l%d%w%p%s%k", "l=d|w>p&s<k", "1?2;3?4;5"};
        int[] due = {-100, -100, -100, -102, -102, -102, -102, -103, 1, -104, -101, -101, 1, -104, -104,
            -102, -103, -103, 1, 1, -105, 1, -102, -102, -102, -102, 1, 1,
            -102, 1, 1, -101, -101, 1, -101, -101, -102, -103, -101, -102, -102, -102, -100, -100, -102,
            1, -106, 1, -106, 1, -106, 1, -106, -106,
            1, -108, -108, 1, 1,
            1, 1, 1};
        check.due("as many texts", texts.length, due.length);
        for (int i = 0; i < texts.length; i++) {
            x = i % 10 == 0 ? new BellTrees() : x;
            check.due("law of " + texts[i], Check.law(x, texts[i]), due[i]);
            check.due("tape behind " + texts[i], x.count(2), 0);
        }
    }

    private static BellTrees forest() {
        BellTrees x = new BellTrees();
        x.tree(345);
        x.tree(795);
        x.path(1);
        return x;
    }

    private static void withoutAText() {
        for (int loud = 0; loud < 10; loud++) {
            BellTrees x = new BellTrees();
            x.tree(500 + 10 * loud);
            x.tree(500 + 10 * loud);
            x.tree(500 + 10 * loud);
            x.path(1);
            for (int wind = 0; wind < 10; wind++) {
                x.mend(7, 4, wind);
                x.mend(0, 6, wind % 3);
                for (int far : new int[] {0, 1, 9}) {
                    int due = loud > far + wind / 2 + wind % 3 ? 5 : -1;
                    check.due("sound without a text", x.sound(0, far == 9 ? 2 : far, 7), due);
                }
            }
        }
        BellTrees x = forest();
        check.due("a faulty law", Check.law(x, "0;0)"), -103);
        check.due("it is as without a text", x.sound(0, 0, 0), 3);
        check.due("a law", Check.law(x, "0"), 1);
        check.due("nothing is heard", x.sound(0, 0, 0), -1);
        check.due("a faulty law", Check.law(x, "1?"), -102);
        check.due("the law is as it was", x.sound(0, 0, 0), -1);
    }

    private static void lines() {
        hear("0?1", 0);
        hear("1?0", 0);
        hear("1?1", 1);
        hear("7?9", 1);
        hear("0?1;0", 0);
        hear("0?1;1", 1);
        hear("0;1", 0);
        hear("1;0", 1);
        hear("0?1;0?1;0?1;5", 1);
        hear("0?1;2?0;1", 0);
        hear("0?1;0?1", 0);
        hear("1?0-1", 1);
        hear("l=4?p=3;d=1?p=7;0", 1);
    }

    private static void hear(String text, int heard) {
        BellTrees x = forest();
        check.due(text, Check.law(x, text), 1);
        check.due("sound by " + text, x.sound(0, 0, 0), heard == 1 ? 3 : -1);
        check.due("sound by " + text, x.sound(2, 1, 23) == -1 ? 0 : 1, heard);
    }

    private static void values() {
        String[] right = {"l=4", "d=0", "w=6", "p=3", "s=8", "k=2", "7/2=3", "(-7)/2=-3", "7%4=3", "(-7)%4=-3", "7%(-4)=3", "5/0=0",
            "5%0=0", "2+3*4=14", "(2+3)*4=20", "9-3-2=4", "80/4/2=10", "17%10%4=3", "2*3%4=2", "(1<2)=1", "(2<1)=0", "(2>1)=1",
            "(1>1)=0", "(1<1)=0", "(3=3)=1", "(5|0)=1", "(0|0)=0", "(5&6)=1", "(5&0)=0", "!5=0", "!0=1", "!!7=1", "-5=0-5",
            "--5=5", "!-5=0", "-!0=0-1", "(1|1&0)=1", "((1|1)&0)=0", "(1&2<1|0)=0", "1=1&2=2", "0|3", "1+1<3&2*2=4", "-2*-3=6",
            "0010=10", "9999*9999=9998*9999+9999", "9999*9999*9999*9999=((-9999*9999)*-9999)*9999", "9999*9999*22<0", "1-2", "(1-2)=-1",
            "-9999/3=-3333"};
        for (String text : right) {
            BellTrees x = forest();
            x.mend(0, 6, 8);
            x.mend(5, 4, 6);
            check.due(text, Check.law(x, text), 1);
            check.due("sound by " + text, x.sound(2, 0, 5), 3);
            check.due("not " + text, Check.law(x, "(" + text + ")?0;1"), 1);
            check.due("sound by not " + text, x.sound(2, 0, 5), -1);
        }
        BellTrees x = forest();
        String lowest = "(-9999*9999*21-9999*4789-(9999*6-6617))";
        long value = -9999L * 9999 * 21 - 9999L * 4789 - (9999 * 6 - 6617);
        check.due("wraps", Check.law(x, lowest + "=" + lowest + "*3"), 1);
        check.due("the law wraps as ints do", x.sound(0, 0, 0), (int) value == (int) value * 3 ? 3 : -1);
        check.due("lowest", Check.law(x, "(9999*9999*4*4*4*4*4*4*4*4)/-1<0"), 1);
        int big = 99980001 << 16;
        check.due("an int", x.sound(0, 0, 0), -big < 0 ? 3 : -1);
        StringBuilder power = new StringBuilder("2");
        for (int i = 1; i < 31; i++) {
            power.append("*2");
        }
        check.due("lowest by -1", Check.law(x, "(" + power + ")/-1=" + "-(1024*1024*1024*2)"), 1);
        check.due("lowest by -1 is lowest", x.sound(0, 0, 0), 3);
        check.due("lowest % -1", Check.law(x, "((" + power + ")%-1)=0"), 1);
        check.due("lowest % -1 is 0", x.sound(0, 0, 0), 3);
    }

    private static void soundRefused() {
        BellTrees x = forest();
        check.due("heard", x.sound(3, 1, 23), 7);
        int[][] bad = {{-1, 0, 0}, {4, 0, 0}, {0, -1, 0}, {0, 2, 0}, {0, 0, -1}, {0, 0, 24}, {Integer.MIN_VALUE, 0, 0},
            {0, Integer.MAX_VALUE, 0}, {0, 0, Integer.MAX_VALUE}};
        for (int[] row : bad) {
            check.due("sound refused", x.sound(row[0], row[1], row[2]), -2000000000);
        }
    }

    private static void theBellItself() {
        BellTrees x = forest();
        Check.law(x, "1");
        for (int height = 0; height < 10; height++) {
            for (int hangs = 0; hangs < 10; hangs++) {
                x.mend(1, 5, height);
                x.mend(0, 2, hangs);
                check.due("height " + height + " hangs " + hangs, x.sound(1, 0, 0), hangs <= height ? 3 : -1);
            }
            x = forest();
            Check.law(x, "1");
        }
        x.mend(0, 3, 0);
        check.due("not there", x.sound(0, 0, 0), -1);
        check.due("there", x.sound(0, 1, 0), 7);
        x.mend(1, 0, 0);
        check.due("pitch 0 is a sound", x.sound(0, 1, 0), 0);
    }

    // ---- texts made by chance, worked out and read by other means than the program's

    private static final String NAMES = "ldwpsk";
    private static Random random = new Random(5);
    private static int[] named = new int[6];
    private static long worth;

    private static String operand(int open) {
        int lot = random.nextInt(open < 5 ? 6 : 3);
        if (lot == 0) {
            int digits = random.nextInt(4) + 1;
            StringBuilder text = new StringBuilder();
            for (int i = 0; i < digits; i++) {
                text.append(random.nextInt(10));
            }
            worth = Integer.parseInt(text.toString());
            return text.toString();
        }
        if (lot <= 2) {
            int name = random.nextInt(6);
            worth = named[name];
            return NAMES.substring(name, name + 1);
        }
        if (lot == 3) {
            String text = "!" + operand(open + 1);
            worth = worth == 0 ? 1 : 0;
            return text;
        }
        if (lot == 4) {
            String text = "-" + operand(open + 1);
            worth = (int) -worth;
            return text;
        }
        return "(" + level(0, open + 1) + ")";
    }

    private static String level(int level, int open) {
        String[] signs = {"|", "&", "<=>", "+-", "*/%"};
        if (level == 5) {
            return operand(open);
        }
        String text = level(level + 1, open);
        int more = random.nextInt(4) == 0 ? level == 2 ? 1 : random.nextInt(2) + 1 : 0;
        for (int i = 0; i < more; i++) {
            long a = worth;
            char sign = signs[level].charAt(random.nextInt(signs[level].length()));
            text += sign + level(level + 1, open);
            long b = worth;
            boolean so = sign == '|' ? a != 0 || b != 0 : sign == '&' ? a != 0 && b != 0
                : sign == '<' ? a < b : sign == '=' ? a == b : a > b;
            if (level < 3) {
                worth = so ? 1 : 0;
            } else if (sign == '+' || sign == '-' || sign == '*') {
                worth = (int) (sign == '+' ? a + b : sign == '-' ? a - b : a * b);
            } else {
                worth = b == 0 ? 0 : (int) (sign == '/' ? a / b : a % b);
            }
        }
        return text;
    }

    private static void randomTexts() {
        int heard = 0;
        for (int turn = 0; turn < 3000; turn++) {
            BellTrees x = new BellTrees();
            int tree = random.nextInt(3);
            int loud = random.nextInt(10);
            int pitch = random.nextInt(10);
            for (int t = 0; t < 3; t++) {
                x.tree(t == tree ? 100 * pitch + 10 * loud : random.nextInt(1000));
            }
            x.path(1);
            int minute = random.nextInt(24);
            int wind = random.nextInt(10);
            int snow = random.nextInt(10);
            int sort = random.nextInt(4);
            x.mend(minute, 4, wind);
            x.mend(0, 6, snow);
            named = new int[] {loud, tree == 2 ? 9 : tree, wind, pitch, snow, sort};
            String text = "";
            int counts = -1;
            for (int line = random.nextInt(3); line >= 0; line--) {
                String first = level(0, 0);
                long of = worth;
                if (random.nextBoolean()) {
                    first += "?" + level(0, 0);
                    counts = counts < 0 && of != 0 ? worth != 0 ? 1 : 0 : counts;
                } else {
                    counts = counts < 0 ? of != 0 ? 1 : 0 : counts;
                }
                text += (text.isEmpty() ? "" : ";") + first;
            }
            if (text.length() <= 120) {
                check.due("law " + text, Check.law(x, text), 1);
                check.due("sound by " + text, x.sound(sort, tree, minute), counts == 1 ? pitch : -1);
                heard += counts == 1 ? 1 : 0;
            }
        }
        check.holds("some are heard", heard > 500);
    }

    /** The place of the fault, found by a row of states and not by the grammar's own shape; -1: none. */
    private static int faultOf(String text) {
        StringBuilder open = new StringBuilder();
        StringBuilder compared = new StringBuilder("n");
        boolean wanted = true;
        boolean asked = false;
        int digits = 0;
        for (int i = 0; i < text.length(); i++) {
            char c = text.charAt(i);
            int last = compared.length() - 1;
            if (!wanted && digits > 0 && Character.isDigit(c)) {
                digits++;
                if (digits > 4) {
                    return i;
                }
                continue;
            }
            if (wanted) {
                if (c == '(' || c == '!' || c == '-') {
                    if (open.length() == 6) {
                        return i;
                    }
                    open.append(c);
                    if (c == '(') {
                        compared.append('n');
                    }
                    continue;
                }
                boolean digit = c >= '0' && c <= '9';
                if (!digit && NAMES.indexOf(c) < 0) {
                    return i;
                }
                digits = digit ? 1 : 0;
                wanted = false;
                closePrefixes(open);
                continue;
            }
            digits = 0;
            boolean inside = open.length() > 0;
            if (c == ')' && inside) {
                open.setLength(open.length() - 1);
                compared.setLength(last);
                closePrefixes(open);
                continue;
            }
            if ("<=>".indexOf(c) >= 0) {
                if (compared.charAt(last) == 'y') {
                    return i;
                }
                compared.setCharAt(last, 'y');
            } else if (c == '|' || c == '&') {
                compared.setCharAt(last, 'n');
            } else if (c == '?' && !inside && !asked) {
                asked = true;
                compared.setCharAt(last, 'n');
            } else if (c == ';' && !inside) {
                asked = false;
                compared.setCharAt(last, 'n');
            } else if ("+-*/%".indexOf(c) < 0) {
                return i;
            }
            wanted = true;
        }
        return wanted || open.length() > 0 ? text.length() : -1;
    }

    private static void closePrefixes(StringBuilder open) {
        while (open.length() > 0 && open.charAt(open.length() - 1) != '(') {
            open.setLength(open.length() - 1);
        }
    }

    private static void randomFaults() {
        String signs = "ldwpsk0123456789((()))!!--+*/%<=>&|?; x";
        int right = 0;
        int texts = 0;
        BellTrees x = null;
        for (int turn = 0; turn < 20000; turn++) {
            StringBuilder text = new StringBuilder(level(0, 0));
            if (random.nextInt(3) == 0) {
                text.append(random.nextBoolean() ? "?" : ";").append(level(0, 0));
            }
            for (int change = random.nextInt(4); change > 0; change--) {
                int at = random.nextInt(text.length() + 1);
                char sign = signs.charAt(random.nextInt(signs.length()));
                if (random.nextBoolean() && at < text.length()) {
                    text.setCharAt(at, sign);
                } else {
                    text.insert(at, sign);
                }
            }
            if (random.nextInt(5) == 0) {
                text.setLength(random.nextInt(text.length()));
            }
            if (text.length() > 120) {
                continue;
            }
            if (texts % 4 == 0 || x == null) {
                x = new BellTrees();
            }
            texts++;
            int fault = faultOf(text.toString());
            right += fault < 0 ? 1 : 0;
            check.due("law of " + text, Check.law(x, text.toString()), fault < 0 ? 1 : -100 - fault);
        }
        check.holds("some are right", right > 2000);
    }
}
