import java.util.Arrays;

/** The boundaries of THE TEXT and THE RULES: the document's Terms, part 1, and promises 9 to 13. */
public final class RulesEdgeTest extends Edges {
    private static final String EIGHT = "clean;clean;clean;clean;clean;clean;clean;clean";

    public static void main(String[] args) {
        manyBytes();
        manyLines();
        ninthLine();
        semicolon();
        eachLine();
        eachLetter();
        notALine();
        number();
        letters();
        digits();
        blanks();
        otherBytes();
        firstToken();
        tokenBegins();
        tooSoon();
        lastLineCounts();
        atFirst();
        withoutALine();
        writeHowMany();
        writeBytes();
        writeFull();
        erase();
        fault();
        rules();
        rulesRefused();
        rule();
        due.end();
    }

    private static void faultIs(String text, int place) {
        PartedLand x = new PartedLand();
        text(x, text);
        due.is("bytes of '" + text + "'", x.count(3), text.length());
        due.is("fault of '" + text + "'", x.fault(), place);
        due.is("bytes behind it", x.count(3), text.length());
        if (place != NONE) due.is("rules of '" + text + "'", x.rules(), NOT);
    }

    private static String blanks(int many) {
        return " ".repeat(many);
    }

    private static void rulesAre(PartedLand x, int... want) {
        for (int what = 0; what < 5; what++) due.is("rule " + what, x.rule(what), want[what]);
    }

    // ---- Terms, part 1

    private static void manyBytes() {
        due.sentence("THE TEXT is a row of bytes, 160 at most");
        for (int n = 1; n <= 8; n++) {
            PartedLand x = new PartedLand();
            int told = 160 - n;
            for (int i = 0; i < told; i++) due.is("one more", x.write(' ', 1), i + 1);
            if (n < 8) due.is("one too many", x.write(0x2020202020202020L, n + 1), FULL);
            due.is("as ahead", x.count(3), told);
            due.is("up to 160", x.write(0x2020202020202020L, n), 160);
            due.each("too many", new int[] {1, 2, 7, 8}, more -> x.write(0x20, more), FULL);
            due.is("160", x.count(3), 160);
        }
        PartedLand y = new PartedLand();
        text(y, blanks(155) + "clean");
        due.is("the last byte is read", y.fault(), NONE);
        due.is("and becomes the rules", y.rules() * 10 + y.rule(0), 11);
        due.is("there is room again", y.write('x', 1), 1);
    }

    private static void manyLines() {
        due.sentence("LINES with ; (59) between, 8 at most");
        StringBuilder lines = new StringBuilder("follow");
        for (int many = 1; many <= 10; many++) {
            PartedLand x = new PartedLand();
            text(x, lines.toString());
            due.is("fault of " + many + " lines", x.fault(), many <= 8 ? NONE : 8 * 7 - 1);
            due.is(many + " lines", x.rules(), many <= 8 ? many : NOT);
            lines.append(";follow");
        }
    }

    private static void ninthLine() {
        due.sentence("LINES with ; (59) between, 8 at most");
        faultIs(EIGHT, NONE);
        faultIs(EIGHT + blanks(9), NONE);
        faultIs(EIGHT + ";", 47);
        faultIs(EIGHT + " ;", 48);
        faultIs(EIGHT + ";clean", 47);
        faultIs(EIGHT + ";x", 47);
        faultIs(EIGHT + ";;", 47);
        faultIs(EIGHT + " clean", 48);
        faultIs(EIGHT + " 7", 48);
        faultIs(EIGHT.substring(6) + ";", 42);
        faultIs(EIGHT.substring(6) + ";x", 42);
        faultIs(EIGHT.substring(0, 46), 42);
    }

    private static void semicolon() {
        due.sentence("LINES with ; (59) between");
        faultIs("clean;clean", NONE);
        faultIs("clean:clean", 5);
        faultIs("clean<clean", 5);
        faultIs("clean,clean", 5);
        faultIs("clean\nclean", 5);
        faultIs("clean clean", 6);
        faultIs("cleanclean", 0);
        faultIs("clean;;clean", 6);
        faultIs("clean; ;clean", 7);
        faultIs(";clean", 0);
        faultIs("clean;", 6);
        faultIs(";", 0);
    }

    private static void eachLine() {
        due.sentence("each is one of: follow. clean. silence yes. silence no. within N. share heads. share worth. "
            + "share equal. pay served. pay lives. pay born.");
        String[] lines = {"follow", "clean", "silence yes", "silence no", "within 7", "share heads", "share worth",
            "share equal", "pay served", "pay lives", "pay born"};
        int[] what = {0, 0, 1, 1, 2, 3, 3, 3, 4, 4, 4};
        int[] want = {0, 1, 1, 0, 7, 0, 1, 2, 0, 1, 2};
        for (int i = 0; i < lines.length; i++) {
            PartedLand x = rules(new PartedLand(), "clean;silence yes;share equal;pay born");
            due.is(lines[i], rules(x, lines[i]).rule(what[i]), want[i]);
            faultIs(lines[i] + ".", lines[i].length());
            faultIs(lines[i].substring(0, 2), 0);
            if (what[i] != 2) faultIs(lines[i] + lines[i], lines[i].indexOf(' ') + 1);
        }
    }

    private static void eachLetter() {
        due.sentence("(As written here, without points;");
        String[] words = {"follow", "clean", "silence", "within", "share", "pay"};
        String[] ahead = {"silence ", "silence ", "share ", "share ", "share ", "pay ", "pay ", "pay "};
        String[] behind = {"yes", "no", "heads", "worth", "equal", "served", "lives", "born"};
        for (String word : words) eachLetterOf("", word);
        for (int i = 0; i < ahead.length; i++) eachLetterOf(ahead[i], behind[i]);
    }

    /** Another letter at each place, and one letter less or more. */
    private static void eachLetterOf(String ahead, String word) {
        for (int i = 0; i < word.length(); i++) {
            char other = word.charAt(i) == 'z' ? 'a' : (char) (word.charAt(i) + 1);
            faultIs(ahead + word.substring(0, i) + other + word.substring(i + 1), ahead.length());
            faultIs(ahead + word.substring(0, i) + word.substring(i + 1), ahead.length());
            faultIs(ahead + word.substring(0, i) + word.charAt(i) + word.substring(i), ahead.length());
        }
    }

    private static void notALine() {
        due.sentence("each is one of: follow. clean.");
        String[] first = {"follow", "clean", "silence", "within", "share", "pay"};
        String[] second = {"yes", "no", "7", "heads", "worth", "equal", "served", "lives", "born"};
        int[][] good = {{}, {}, {0, 1}, {2}, {3, 4, 5}, {6, 7, 8}};
        for (int i = 0; i < first.length; i++) {
            for (int j = 0; j < second.length; j++) {
                int chosen = j;
                boolean may = Arrays.stream(good[i]).anyMatch(g -> g == chosen);
                faultIs(first[i] + " " + second[j], may ? NONE : first[i].length() + 1);
            }
            for (String other : first) faultIs(first[i] + " " + other, first[i].length() + 1);
        }
        for (String word : second) faultIs(word, 0);
    }

    private static void number() {
        due.sentence("N 0 .. 999; small letters a .. z, numbers of 1 to 3 digits");
        String[] texts = {"0", "1", "9", "00", "09", "10", "99", "000", "007", "099", "100", "998", "999"};
        for (String text : texts) {
            PartedLand x = new PartedLand();
            text(x, "within " + text);
            due.is("fault of " + text, x.fault(), NONE);
            due.is("rules of " + text, x.rules(), 1);
            due.is("within " + text, x.rule(2), Integer.parseInt(text));
        }
        for (String text : new String[] {"0000", "0001", "0999", "1000", "9999", "00000", "2147483648", "4294967296"}) {
            faultIs("within " + text, 7);
        }
        faultIs("within -0", 7);
        faultIs("within +1", 7);
        faultIs("within 1 1", 9);
        faultIs("within 100 0", 11);
        faultIs("within 9.", 8);
        faultIs("7", 0);
        faultIs("follow 7", 7);
    }

    private static void letters() {
        due.sentence("small letters a .. z");
        faultIs("`", 0);
        faultIs("clean`", 5);
        faultIs("cleana", 0);
        faultIs("cleanz", 0);
        faultIs("clean{", 5);
        faultIs("Clean", 0);
        faultIs("cleaN", 0);
        faultIs("clean@", 5);
        faultIs("cleanZ", 5);
        faultIs("pay A", 4);
        faultIs("aclean", 0);
        faultIs("zclean", 0);
        faultIs("within a", 7);
        faultIs("within 1a", 8);
        faultIs("within 1z", 8);
    }

    private static void digits() {
        due.sentence("a row of digits");
        faultIs("within 0", NONE);
        faultIs("within 9", NONE);
        faultIs("within /", 7);
        faultIs("within :", 7);
        faultIs("within 0/", 8);
        faultIs("within 9:", 8);
        faultIs("within 1/1", 8);
        faultIs("within 12:", 9);
        faultIs("within30", NONE);
        faultIs("within 30;clean", NONE);
        faultIs("clean0", 5);
        faultIs("0clean", 0);
        faultIs("within 1000clean", 7);
    }

    private static void blanks() {
        due.sentence("blanks (32) between.");
        faultIs("pay lives", NONE);
        faultIs("pay" + blanks(152) + "lives", NONE);
        faultIs(blanks(151) + "pay lives", NONE);
        faultIs("pay lives" + blanks(151), NONE);
        faultIs("pay lives ; clean ;within  5", NONE);
        faultIs("paylives", 0);
        faultIs("pay li ves", 4);
        faultIs("within 1 2", 9);
        for (int other : new int[] {0, 9, 10, 13, 31, 33, 127, 128, 160, 255}) {
            faultIs("pay" + (char) other + "lives", 3);
            faultIs("pay " + (char) other + "lives", 4);
            faultIs((char) other + "clean", 0);
            faultIs("clean" + (char) other, 5);
        }
    }

    private static void otherBytes() {
        due.sentence("(a row of small letters, a row of digits, any other byte)");
        for (int other = 0; other < 256; other++) {
            boolean blank = other == ' ';
            boolean letter = other >= 'a' && other <= 'z';
            faultIs("clean" + (char) other, blank ? NONE : letter ? 0 : other == ';' ? 6 : 5);
            faultIs("clean " + (char) other, blank ? NONE : other == ';' ? 7 : 6);
            boolean digit = other >= '0' && other <= '9';
            faultIs("within " + (char) other, blank ? 8 : digit ? NONE : 7);
            faultIs("within 99" + (char) other, blank || digit ? NONE : other == ';' ? 10 : 9);
        }
        faultIs("clean..", 5);
        faultIs("clean ..", 6);
        faultIs("clean;..", 6);
        for (int other = 33; other < 127; other++) {
            boolean letter = other >= 'a' && other <= 'z';
            faultIs("clean;" + (char) other, 6);
            faultIs("clean;" + (char) other + ";clean", 6);
            faultIs("clean;" + (char) other + "clean", 6);
            faultIs("within 5;" + (char) other + "5;clean", 9);
            faultIs("clean" + (char) other + "5", letter ? 0 : other == ';' ? 6 : 5);
            faultIs("clean" + (char) other + "clean", letter ? 0 : other == ';' ? NONE : 5);
            boolean digit = other >= '0' && other <= '9';
            faultIs("within 5" + (char) other + "5", digit ? NONE : other == ';' ? 9 : 8);
            faultIs("within" + (char) other + "5", digit ? NONE : letter ? 0 : 6);
        }
    }

    private static void firstToken() {
        due.sentence("A FAULT is at the first TOKEN");
        faultIs("x;y;z", 0);
        faultIs("clean;y;z", 6);
        faultIs("clean;clean z;y", 12);
        faultIs("share;pay", 5);
        faultIs("share all;pay", 6);
        faultIs("share heads worth 9999", 12);
        faultIs("within 1000;x", 7);
        faultIs("clean;within x;share", 13);
    }

    private static void tokenBegins() {
        due.sentence("The place of the FAULT (the byte with which the TOKEN begins, or the length); NONE.");
        faultIs("   x", 3);
        faultIs("clean;   xyz", 9);
        faultIs("within    1000", 10);
        faultIs("clean    .", 9);
        faultIs("followed", 0);
        faultIs(blanks(159) + "x", 159);
        faultIs(blanks(159) + ";", 159);
        faultIs(blanks(157) + "pay", 160);
    }

    private static void tooSoon() {
        due.sentence("or at the end, if it comes too soon");
        faultIs("", 0);
        faultIs(" ", 1);
        faultIs(blanks(160), 160);
        for (String word : new String[] {"silence", "within", "share", "pay"}) {
            faultIs(word, word.length());
            faultIs(word + " ", word.length() + 1);
            faultIs(word + blanks(160 - word.length()), 160);
            faultIs("clean;" + word, 6 + word.length());
        }
        faultIs("clean;", 6);
        faultIs("clean; ", 7);
        faultIs("clean;" + blanks(154), 160);
        faultIs("clean", NONE);
        faultIs("clean ", NONE);
    }

    private static void lastLineCounts() {
        due.sentence("of follow and clean the last one, of each other word the last LINE");
        PartedLand x = new PartedLand();
        rulesAre(rules(x, "clean;follow"), 0, 0, 100, 0, 0);
        rulesAre(rules(x, "follow;clean"), 1, 0, 100, 0, 0);
        rulesAre(rules(x, "clean;follow;clean;pay born"), 1, 0, 100, 0, 2);
        rulesAre(rules(x, "silence yes;silence no"), 0, 0, 100, 0, 0);
        rulesAre(rules(x, "silence no;silence yes"), 0, 1, 100, 0, 0);
        rulesAre(rules(x, "within 5;within 999;within 0"), 0, 0, 0, 0, 0);
        rulesAre(rules(x, "within 0;clean;within 999"), 1, 0, 999, 0, 0);
        rulesAre(rules(x, "share equal;share worth;pay lives;pay born"), 0, 0, 100, 1, 2);
        rulesAre(rules(x, "share worth;share heads;pay born;pay served"), 0, 0, 100, 0, 0);
        rulesAre(rules(x, "clean;clean;clean;clean;clean;clean;clean;follow"), 0, 0, 100, 0, 0);
    }

    private static void atFirst() {
        due.sentence("and at first: follow, silence no, within 100, share heads, pay served.");
        PartedLand x = new PartedLand();
        rulesAre(x, 0, 0, 100, 0, 0);
        text(x, "clean;silence yes;within 7;share worth;pay lives");
        due.is("no fault", x.fault(), NONE);
        rulesAre(x, 0, 0, 100, 0, 0);
        x.erase();
        rulesAre(x, 0, 0, 100, 0, 0);
    }

    private static void withoutALine() {
        due.sentence("without one, and at first: follow, silence no, within 100, share heads, pay served.");
        String all = "clean;silence yes;within 7;share worth;pay lives";
        PartedLand x = rules(new PartedLand(), all);
        rulesAre(x, 1, 1, 7, 1, 1);
        rulesAre(rules(x, "follow"), 0, 0, 100, 0, 0);
        rulesAre(rules(rules(x, all), "clean"), 1, 0, 100, 0, 0);
        rulesAre(rules(rules(x, all), "silence yes"), 0, 1, 100, 0, 0);
        rulesAre(rules(rules(x, all), "within 8"), 0, 0, 8, 0, 0);
        rulesAre(rules(rules(x, all), "share equal"), 0, 0, 100, 2, 0);
        rulesAre(rules(rules(x, all), "pay born"), 0, 0, 100, 0, 2);
    }

    // ---- promises 9 to 13

    private static void writeHowMany() {
        due.sentence("n (1 .. 8) bytes more of THE TEXT");
        PartedLand x = new PartedLand();
        due.each("no n", besides(1, 8), n -> x.write(0x20, n), OUTSIDE);
        due.is("none written", x.count(3), 0);
        int length = 0;
        for (int n = 1; n <= 8; n++) {
            length += n;
            due.is("so many more", x.write(0x2020202020202020L, n), length);
        }
        due.each("no n", besides(1, 8), n -> x.write(0x20, n), OUTSIDE);
        due.is("as many as ahead", x.count(3), 36);
    }

    private static void writeBytes() {
        due.sentence("byte i being bytes >> 8 i & 255");
        PartedLand x = new PartedLand();
        long clean = 0x6e61656c63L;
        due.is("five", x.write(clean, 5), 5);
        due.is("the lowest one first", x.fault(), NONE);
        x.erase();
        due.is("higher ones don't matter", x.write(clean | 0xffffffL << 40, 5), 5);
        due.is("higher ones don't matter", x.fault(), NONE);
        x.erase();
        due.is("eight", x.write(0x2020206e61656c63L, 8), 8);
        due.is("eight", x.fault(), NONE);
        due.is("the eighth one has its sign", x.write(0xbb206e61656c633bL, 8), 16);
        due.is("187 is no ;", x.fault(), 15);
        x.erase();
        due.is("all 255", x.write(-1L, 8), 8);
        due.is("are other bytes", x.fault(), 0);
        x.erase();
        x.write(clean, 4);
        due.is("without its last one", x.fault(), 0);
        x.write('n', 1);
        due.is("with it", x.fault(), NONE);
        x.erase();
        x.write(clean, 5);
        x.write(Long.MIN_VALUE, 8);
        due.is("a byte of 0", x.fault(), 5);
        x.erase();
        x.write(0x80206e61656c63L, 7);
        due.is("a byte of 128", x.fault(), 6);
    }

    private static void writeFull() {
        due.sentence("how many it has. OUTSIDE; FULL.");
        PartedLand x = new PartedLand();
        text(x, "clean" + blanks(153));
        due.is("158", x.count(3), 158);
        due.is("three are too many", x.write(0x3b3b3bL, 3), FULL);
        due.is("none of them is written", x.count(3), 158);
        due.is("none of them is read", x.fault(), NONE);
        due.is("two", x.write(0x2020, 2), 160);
        due.is("full and no n", x.write(0x20, 9), OUTSIDE);
        due.is("full and no n", x.write(0x20, 0), OUTSIDE);
        due.is("full", x.write(0x20, 1), FULL);
        due.is("no fault", x.fault(), NONE);
        due.is("one line", x.rules(), 1);
    }

    private static void erase() {
        due.sentence("THE TEXT is empty: how many bytes it had.");
        PartedLand x = new PartedLand();
        due.is("none", x.erase(), 0);
        x.write('x', 1);
        due.is("one", x.erase(), 1);
        due.is("none again", x.erase() + x.count(3), 0);
        text(x, "clean" + blanks(155));
        due.is("160", x.erase(), 160);
        due.is("empty", x.count(3), 0);
        due.is("nothing to read", x.fault(), 0);
        due.is("nothing to become rules", x.rules(), NOT);
        due.is("room again", x.write('x', 1), 1);
        due.is("nothing of what was erased", x.fault(), 0);
        x.erase();
        text(x, "pay");
        x.erase();
        text(x, "lives");
        due.is("nothing of what was erased", x.fault(), 0);
        rulesAre(x, 0, 0, 100, 0, 0);
    }

    private static void fault() {
        due.sentence("The place of the FAULT (the byte with which the TOKEN begins, or the length); NONE.");
        PartedLand x = new PartedLand();
        String text = "share worth;pay born";
        int[] want = {0, 0, 0, 0, 0, 5, 6, 6, 6, 6, 6, NONE, 12, 12, 12, 15, 16, 16, 16, 16, NONE};
        for (int length = 0; length <= text.length(); length++) {
            due.is("of the first " + length, x.fault(), want[length]);
            due.is("and again", x.fault(), want[length]);
            if (length < text.length()) x.write(text.charAt(length), 1);
        }
        rulesAre(x, 0, 0, 100, 0, 0);
        due.is("the text stays", x.count(3), 20);
    }

    private static void rules() {
        due.sentence("THE TEXT becomes THE RULES, and is empty then: how many LINES. NOT: it has a FAULT.");
        PartedLand x = new PartedLand();
        due.is("an empty one has a fault", x.rules(), NOT);
        text(x, "clean");
        due.is("one line", x.rules(), 1);
        due.is("empty then", x.count(3), 0);
        due.is("empty, a fault again", x.rules(), NOT);
        rulesAre(x, 1, 0, 100, 0, 0);
        text(x, EIGHT);
        due.is("eight lines", x.rules(), 8);
        due.is("empty then", x.erase(), 0);
        text(x, blanks(147) + "clean;clean" + "  ");
        due.is("a full text", x.count(3) * 10 + x.rules(), 1602);
    }

    private static void rulesRefused() {
        due.sentence("NOT: it has a FAULT.");
        PartedLand x = rules(new PartedLand(), "clean;silence yes;within 7;share worth;pay lives");
        String[] faulty = {"follow;", "follow;silence no;within 8;share equal;pay", "pay born x", EIGHT + ";clean"};
        for (String text : faulty) {
            text(x, text);
            due.is("refused: " + text, x.rules(), NOT);
            due.is("the text stays", x.count(3), text.length());
            rulesAre(x, 1, 1, 7, 1, 1);
            due.is("had so many", x.erase(), text.length());
        }
        text(x, "pay");
        due.is("refused", x.rules(), NOT);
        text(x, " born");
        due.is("the rest is written", x.rules(), 1);
        rulesAre(x, 0, 0, 100, 0, 2);
    }

    private static void rule() {
        due.sentence("0 follow, 1 clean (what 0); silence: 1 yes, 0 no (1); within (2); share: 0 heads, 1 worth, 2 equal (3); "
            + "pay: 0 served, 1 lives, 2 born (4). OUTSIDE.");
        PartedLand x = new PartedLand();
        due.each("no what", noneOf(5), x::rule, OUTSIDE);
        rulesAre(rules(x, "clean;silence yes;within 999;share equal;pay born"), 1, 1, 999, 2, 2);
        due.each("no what", noneOf(5), x::rule, OUTSIDE);
        rulesAre(rules(x, "follow;silence no;within 0;share worth;pay lives"), 0, 0, 0, 1, 1);
        rulesAre(rules(x, "follow;share heads;pay served"), 0, 0, 100, 0, 0);
    }
}
