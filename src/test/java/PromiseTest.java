/** For each promise of the document: ordinary inputs, the edges that it names, wrong inputs. */
public final class PromiseTest extends Edges {
    public static void main(String[] args) {
        constants();
        newObject();
        ground();
        change();
        changeRefused();
        changeFull();
        lands();
        has();
        whose();
        from();
        heir();
        write();
        erase();
        fault();
        faultOfLines();
        rules();
        rule();
        pact();
        word();
        voice();
        boundByGround();
        boundByRank();
        boundByTradeFollow();
        boundByTradeJoin();
        boundByTradeClean();
        boundOnOneDay();
        since();
        debt();
        owes();
        owesDivided();
        thing();
        owns();
        ownsAbroad();
        served();
        paid();
        hangs();
        without();
        burden();
        best();
        count();
        due.end();
    }

    // ---- objects to ask

    /** GROUNDS 0 .. 3: heads 10, 20, 30, 40; worth 4, 3, 2, 1. */
    private static PartedLand four() {
        PartedLand x = new PartedLand();
        for (int i = 0; i < 4; i++) due.is("ground", x.ground(10 * (i + 1), 4 - i), i);
        return x;
    }

    private static void faultIs(String text, int place) {
        PartedLand x = new PartedLand();
        text(x, text);
        due.is("fault of '" + text + "'", x.fault(), place);
        due.is("fault again", x.fault(), place);
        due.is("bytes behind fault", x.count(3), text.length());
    }

    // ---- 1 to 8: grounds, changes

    private static void constants() {
        due.part("constants");
        due.is("NONE", PartedLand.NONE, NONE);
        due.is("UNKNOWN", PartedLand.UNKNOWN, UNKNOWN);
        due.is("OUTSIDE", PartedLand.OUTSIDE, OUTSIDE);
        due.is("NOT", PartedLand.NOT, NOT);
        due.is("FULL", PartedLand.FULL, FULL);
    }

    private static void newObject() {
        due.part("1 PartedLand");
        PartedLand x = new PartedLand();
        due.is("lands", x.lands(0), 1);
        due.is("lands", x.lands(999), 1);
        due.is("has", x.has(0, 0), 0);
        for (int what = 0; what < 10; what++) due.is("count " + what, x.count(what), what == 1 ? 1 : 0);
        due.is("whose", x.whose(0, 0), UNKNOWN);
        PartedLand other = four();
        due.is("another one's", x.has(0, 0), 0);
        due.is("another one's", other.has(0, 0), 15);
    }

    private static void ground() {
        due.part("2 ground");
        PartedLand x = new PartedLand();
        int[][] wrong = {{0, 0}, {1000, 0}, {1, -1}, {1, 1000}, {LOWEST, 1}, {HIGHEST, 1}, {1, LOWEST}, {1, HIGHEST}};
        for (int[] w : wrong) due.is("wrong", x.ground(w[0], w[1]), OUTSIDE);
        due.is("count", x.count(0), 0);
        due.is("least", x.ground(1, 0), 0);
        due.is("most", x.ground(999, 999), 1);
        due.is("has", x.has(0, 0), 3);
        for (int i = 2; i < 8; i++) due.is("more", x.ground(i, i), i);
        due.is("ninth", x.ground(1, 1), FULL);
        due.is("ninth and wrong", x.ground(0, 1), OUTSIDE);
        due.is("count", x.count(0), 8);
        due.is("has", x.has(0, 0), 255);
        x.change(PART, 0, 0, 0, 1);
        due.is("behind a change, full", x.ground(1, 1), NOT);
        due.is("behind a change, wrong", x.ground(1, 1000), OUTSIDE);
    }

    private static void change() {
        due.part("3 change");
        PartedLand x = four();
        due.is("part", x.change(PART, 5, 0, -7, 1), 1);
        due.is("fall", x.change(FALL, 5, 0, 99, 6), 2);
        due.is("has first", x.has(2, 5), 6);
        due.is("has other", x.has(3, 5), 8);
        due.is("has fallen", x.has(0, 5), 0);
        due.is("give", x.change(GIVE, 6, 2, 3, 2), 2);
        due.is("giver", x.has(2, 6), 4);
        due.is("taker", x.has(3, 6), 10);
        due.is("same", x.change(SAME, 6, 3, LOWEST, HIGHEST), 3);
        due.is("same again", x.change(SAME, 6, 3, 0, 0), 3);
        due.is("join", x.change(JOIN, 999, 1, 2, -1), 1);
        due.is("joined", x.has(1, 999), 5);
        due.is("lands", x.lands(999), 10);
        due.is("count", x.count(2), 6);
    }

    private static void changeRefused() {
        due.part("3 change refused");
        PartedLand x = four();
        x.change(PART, 5, 0, 0, 1);
        due.is("kind below", x.change(-1, 5, 0, 0, 2), OUTSIDE);
        due.is("kind above", x.change(5, 5, 0, 0, 2), OUTSIDE);
        due.is("day below the latest", x.change(PART, 4, 0, 0, 2), OUTSIDE);
        due.is("no day", x.change(PART, 1000, 0, 0, 2), OUTSIDE);
        due.is("no day", x.change(PART, -1, 0, 0, 2), OUTSIDE);
        due.is("OUTSIDE ahead of UNKNOWN", x.change(PART, 1000, 9, 0, 2), OUTSIDE);
        due.is("no land", x.change(PART, 5, 2, 0, 2), UNKNOWN);
        due.is("no land", x.change(SAME, 5, -1, 0, 2), UNKNOWN);
        due.is("no land", x.change(SAME, 5, HIGHEST, 0, 2), UNKNOWN);
        due.is("no other land", x.change(JOIN, 5, 0, 2, 2), UNKNOWN);
        due.is("no other land", x.change(GIVE, 5, 0, -1, 2), UNKNOWN);
        due.is("UNKNOWN ahead of NOT", x.change(GIVE, 5, 0, 2, 0), UNKNOWN);
        due.is("one land", x.change(JOIN, 5, 1, 1, 1), NOT);
        due.is("one land", x.change(GIVE, 5, 0, 0, 2), NOT);
        for (int kind : new int[] {PART, FALL, GIVE}) {
            due.is("none", x.change(kind, 5, 0, 1, 0), NOT);
            due.is("all", x.change(kind, 5, 0, 1, 14), NOT);
            due.is("another's", x.change(kind, 5, 0, 1, 3), NOT);
            due.is("no ground", x.change(kind, 5, 0, 1, 18), NOT);
            due.is("no ground", x.change(kind, 5, 0, 1, LOWEST | 2), NOT);
            due.is("its only one", x.change(kind, 5, 1, 0, 1), NOT);
        }
        due.is("same of the first", x.change(SAME, 5, 0, 0, 0), NOT);
        due.is("count", x.count(2), 1);
        due.is("count", x.count(1), 2);
        x.pact(OF_TRADE, 0, 0, 0, 7);
        due.is("day of a pact", x.change(SAME, 7, 1, 0, 0), OUTSIDE);
        x.pact(OF_TRADE, 0, 0, 0, 6);
        due.is("day of a pact told ahead", x.change(SAME, 7, 1, 0, 0), OUTSIDE);
        x.debt(0, 1, NONE, 8);
        x.debt(0, 1, NONE, 3);
        due.is("day of a debt", x.change(SAME, 8, 1, 0, 0), OUTSIDE);
        due.is("day behind", x.change(SAME, 9, 1, 0, 0), 1);
        x.change(JOIN, 10, 0, 1, 0);
        due.is("no more", x.change(JOIN, 10, 0, 1, 0), UNKNOWN);
        due.is("no more", x.change(SAME, 10, 1, 0, 0), UNKNOWN);
        due.is("words and voices don't bar", x.word(0, 0, true, true, 500) + x.voice(0, 1, true, 500), 2);
        due.is("behind these", x.change(PART, 11, 0, 0, 1), 2);
    }

    private static void changeFull() {
        due.part("3 change full");
        PartedLand x = new PartedLand();
        for (int i = 0; i < 8; i++) x.ground(1, 1);
        for (int i = 0; i < 6; i++) due.is("part", x.change(PART, 0, 0, 0, 1 << i), i + 1);
        due.is("join", x.change(JOIN, 0, 0, 6, 0), 0);
        due.is("join", x.change(JOIN, 0, 0, 5, 0), 0);
        due.is("part", x.change(PART, 0, 0, 0, 32), 7);
        due.is("part", x.change(PART, 0, 0, 0, 16), 8);
        due.is("fall of two more", x.change(FALL, 0, 0, 0, 64), FULL);
        due.is("NOT ahead of FULL", x.change(FALL, 0, 0, 0, 192), NOT);
        due.is("tenth land", x.change(PART, 0, 0, 0, 64), 9);
        due.is("eleventh land", x.change(PART, 0, 1, 0, 1), NOT);
        due.is("give", x.change(GIVE, 0, 0, 1, 128), NOT);
        due.is("twelfth", x.change(JOIN, 0, 1, 2, 0), 1);
        due.is("thirteenth", x.change(SAME, 0, 1, 0, 0), FULL);
        due.is("thirteenth, wrong", x.change(SAME, 0, 2, 0, 0), UNKNOWN);
        due.is("count", x.count(2), 12);
        due.is("lands", x.count(1), 10);
        due.is("there", x.lands(0), 0b1110011011);
        PartedLand y = new PartedLand();
        for (int i = 0; i < 8; i++) y.ground(1, 1);
        for (int i = 0; i < 7; i++) y.change(PART, 0, 0, 0, 1 << i);
        y.change(JOIN, 0, 0, 1, 0);
        due.is("ninth land", y.change(PART, 0, 0, 0, 1), 8);
        y.change(JOIN, 0, 0, 2, 0);
        due.is("tenth land", y.change(PART, 0, 0, 0, 2), 9);
        y.change(GIVE, 0, 0, 3, 0);
        due.is("eleventh by part", y.change(JOIN, 0, 0, 3, 0), 0);
        due.is("twelve told", y.change(PART, 0, 0, 0, 4), FULL);
    }

    private static void lands() {
        due.part("4 lands");
        PartedLand x = four();
        x.change(PART, 5, 0, 0, 1);
        x.change(FALL, 5, 0, 0, 2);
        x.change(JOIN, 7, 2, 1, 0);
        due.is("ahead", x.lands(4), 1);
        due.is("on it", x.lands(5), 0b1110);
        due.is("between", x.lands(6), 0b1110);
        due.is("behind", x.lands(7), 0b1100);
        due.is("last day", x.lands(999), 0b1100);
        for (int day : new int[] {-1, 1000, LOWEST, HIGHEST}) due.is("no day", x.lands(day), OUTSIDE);
    }

    private static void has() {
        due.part("5 has");
        PartedLand x = four();
        x.change(PART, 5, 0, 0, 9);
        x.change(GIVE, 6, 1, 0, 8);
        due.is("ahead", x.has(0, 4), 15);
        due.is("not there yet", x.has(1, 4), 0);
        due.is("parted", x.has(0, 5), 6);
        due.is("new", x.has(1, 5), 9);
        due.is("given", x.has(0, 6), 14);
        due.is("giver", x.has(1, 6), 1);
        for (int land : new int[] {-1, 2, 10, LOWEST, HIGHEST}) due.is("never came", x.has(land, 1000), UNKNOWN);
        for (int day : new int[] {-1, 1000, LOWEST, HIGHEST}) due.is("no day", x.has(1, day), OUTSIDE);
    }

    private static void whose() {
        due.part("6 whose");
        PartedLand x = four();
        x.change(FALL, 5, 0, 0, 9);
        x.change(JOIN, 7, 2, 1, 0);
        due.is("ahead", x.whose(3, 4), 0);
        due.is("first", x.whose(3, 5), 1);
        due.is("other", x.whose(2, 5), 2);
        due.is("joined", x.whose(3, 7), 2);
        for (int g : new int[] {-1, 4, 8, LOWEST, HIGHEST}) due.is("no ground", x.whose(g, 1000), UNKNOWN);
        for (int day : new int[] {-1, 1000, LOWEST, HIGHEST}) due.is("no day", x.whose(0, day), OUTSIDE);
    }

    private static void from() {
        due.part("7 from");
        PartedLand x = four();
        x.change(PART, 5, 0, 0, 7);
        x.change(FALL, 9, 1, 0, 3);
        x.change(JOIN, 11, 2, 3, 0);
        int[][] want = {{NONE, 0}, {0, 5}, {1, 9}, {1, 9}};
        for (int land = 0; land < 4; land++) {
            due.is("out of which, " + land, x.from(land, 0), want[land][0]);
            due.is("on which day, " + land, x.from(land, 1), want[land][1]);
        }
        for (int land : new int[] {-1, 4, LOWEST, HIGHEST}) due.is("no land", x.from(land, 2), UNKNOWN);
        for (int what : new int[] {-1, 2, LOWEST, HIGHEST}) due.is("no such what", x.from(1, what), OUTSIDE);
    }

    private static void heir() {
        due.part("8 heir");
        PartedLand x = four();
        x.change(FALL, 5, 0, 0, 8);
        due.is("itself", x.heir(0, 4), 0);
        due.is("more heads", x.heir(0, 5), 2);
        due.is("not come yet", x.heir(2, 4), NONE);
        due.is("came", x.heir(2, 5), 2);
        x.change(GIVE, 6, 2, 1, 6);
        due.is("heads when it came", x.heir(0, 6), 2);
        x.change(FALL, 7, 1, 0, 2);
        due.is("heir falls not", x.heir(0, 7), 2);
        due.is("of the other", x.heir(1, 7), 4);
        x.change(JOIN, 8, 3, 2, 0);
        due.is("heir joined", x.heir(0, 8), 3);
        due.is("joined", x.heir(2, 8), 3);
        x.change(JOIN, 8, 4, 3, 0);
        due.is("heir joined twice", x.heir(0, 8), 4);
        due.is("the day ahead", x.heir(0, 7), 2);
        due.is("part leaves it", x.change(PART, 9, 4, 0, 1) * 10 + x.heir(4, 9), 54);
        for (int land : new int[] {-1, 6, LOWEST, HIGHEST}) due.is("no land", x.heir(land, 1000), UNKNOWN);
        for (int day : new int[] {-1, 1000, LOWEST, HIGHEST}) due.is("no day", x.heir(0, day), OUTSIDE);
        PartedLand y = four();
        y.change(FALL, 0, 0, 0, 9);
        due.is("of like ones the first", y.heir(0, 0), 1);
    }

    // ---- 9 to 13: rules

    private static void write() {
        due.part("9 write");
        PartedLand x = new PartedLand();
        for (int n : new int[] {0, 9, -1, LOWEST, HIGHEST}) due.is("not 1 .. 8", x.write(0x61L, n), OUTSIDE);
        due.is("low byte first", x.write(0x6f6c6c6f66L, 4), 4);
        due.is("too soon", x.fault(), 0);
        due.is("the rest", x.write(0x6f6c6c6f66L >> 32 | 0x7700, 2), 6);
        due.is("a fault no more", x.fault(), NONE);
        due.is("bytes above n don't matter", x.write(0xff20L, 1), 7);
        due.is("no fault", x.fault(), NONE);
        due.is("a byte of 255", x.write(-1L, 8), 15);
        due.is("is a fault", x.fault(), 7);
        x.erase();
        for (int i = 1; i < 20; i++) due.is("eight more", x.write(0x2020202020202020L, 8), 8 * i);
        due.is("seven more", x.write(0x2020202020202020L, 7), 159);
        due.is("two too many", x.write(0x2020202020202020L, 2), FULL);
        due.is("OUTSIDE ahead of FULL", x.write(0, 9), OUTSIDE);
        due.is("the last one", x.write(0x2020202020202020L, 1), 160);
        due.is("one too many", x.write(0x20, 1), FULL);
        due.is("blanks alone", x.fault(), 160);
        due.is("bytes", x.count(3), 160);
    }

    private static void erase() {
        due.part("10 erase");
        PartedLand x = new PartedLand();
        due.is("nothing", x.erase(), 0);
        text(x, "follow;cl");
        due.is("nine", x.erase(), 9);
        due.is("empty", x.count(3), 0);
        due.is("empty", x.erase(), 0);
        due.is("rules stay", x.rule(2), 100);
        text(x, "clean");
        due.is("nothing of the old one", x.rules(), 1);
    }

    private static void fault() {
        due.part("11 fault");
        String[] good = {"follow", "clean", "silence yes", "silence no", "within 0", "within 999", "within 007",
            "share heads", "share worth", "share equal", "pay served", "pay lives", "pay born", "within30", "  clean  ",
            "follow;clean", "follow ; clean", "pay   born;share  equal;silence no"};
        for (String text : good) faultIs(text, NONE);
        faultIs("", 0);
        faultIs("   ", 3);
        faultIs("folow", 0);
        faultIs("followw", 0);
        faultIs("gollow", 0);
        faultIs("cleanz", 0);
        faultIs("acleana", 0);
        faultIs(" Follow", 1);
        faultIs("follow clean", 7);
        faultIs("follow yes", 7);
        faultIs("follow1", 6);
        faultIs("follow.", 6);
        faultIs("silence", 7);
        faultIs("silence ", 8);
        faultIs("silence maybe", 8);
        faultIs("silence heads", 8);
        faultIs("silence ;", 8);
        faultIs("silence yes no", 12);
        faultIs("silenceyes", 0);
        faultIs("within", 6);
        faultIs("within  1000", 8);
        faultIs("within 0001", 7);
        faultIs("within -1", 7);
        faultIs("within x", 7);
        faultIs("within 1 2", 9);
        faultIs("within 12a", 9);
        faultIs("share", 5);
        faultIs("share born", 6);
        faultIs("share headss", 6);
        faultIs("pay", 3);
        faultIs("pay heads", 4);
        faultIs("yes", 0);
        faultIs("12", 0);
        faultIs("follow,", 6);
        faultIs("clean\t", 5);
        faultIs("clean\u00e9", 5);
        faultIs("clean\u0000", 5);
        faultIs("`", 0);
        faultIs("{", 0);
        faultIs("within /", 7);
        faultIs("within :", 7);
    }

    private static void faultOfLines() {
        due.part("11 fault of lines");
        PartedLand x = new PartedLand();
        text(x, "      7");
        x.erase();
        text(x, "within");
        due.is("what was erased is not read", x.fault(), 6);
        x.erase();
        for (int i = 0; i < 19; i++) text(x, "        ");
        text(x, "  within");
        due.is("at the end of a full text", x.fault(), 160);
        x.erase();
        for (int i = 0; i < 19; i++) text(x, "        ");
        text(x, "within 9");
        due.is("a full text", x.fault(), NONE);
        faultIs(";", 0);
        faultIs("follow;", 7);
        faultIs("follow; ", 8);
        faultIs("follow;;clean", 7);
        faultIs(";follow", 0);
        faultIs("follow;no", 7);
        String eight = "clean;clean;clean;clean;clean;clean;clean;clean";
        faultIs(eight, NONE);
        faultIs(eight + " ", NONE);
        faultIs(eight + " ;", 48);
        faultIs(eight + ";clean", 47);
        faultIs(eight + "x", 42);
        faultIs(eight + " x", 48);
        faultIs("clean;clean;clean;clean;clean;clean;clean;", 42);
    }

    private static void rules() {
        due.part("12 rules");
        PartedLand x = new PartedLand();
        due.is("an empty text", x.rules(), NOT);
        text(x, "clean;within 5;share worth;pay lives;silence yes;within 6;share equal;pay born");
        due.is("eight lines", x.rules(), 8);
        due.is("empty then", x.count(3), 0);
        int[] last = {1, 1, 6, 2, 2};
        for (int what = 0; what < 5; what++) due.is("the last line, " + what, x.rule(what), last[what]);
        text(x, "clean;within 7;");
        due.is("a fault", x.rules(), NOT);
        due.is("text stays", x.count(3), 15);
        due.is("rules stay", x.rule(2), 6);
        due.is("on with it", x.write(0x776f6c6c6f66L, 6), 21);
        due.is("three lines", x.rules(), 3);
        int[] next = {0, 0, 7, 0, 0};
        for (int what = 0; what < 5; what++) due.is("without a line as at first, " + what, x.rule(what), next[what]);
        rules(x, "follow;clean");
        due.is("the last one", x.rule(0), 1);
        due.is("as at first", x.rule(2), 100);
    }

    private static void rule() {
        due.part("13 rule");
        PartedLand x = new PartedLand();
        int[] first = {0, 0, 100, 0, 0};
        for (int what = 0; what < 5; what++) due.is("at first, " + what, x.rule(what), first[what]);
        String[] texts = {"clean", "silence yes", "within 999", "share worth", "pay lives"};
        int[] wants = {1, 1, 999, 1, 1};
        for (int i = 0; i < 5; i++) due.is(texts[i], rules(x, texts[i]).rule(i), wants[i]);
        due.is("share equal", rules(x, "share equal").rule(3), 2);
        due.is("share heads", rules(x, "share equal;share heads").rule(3), 0);
        due.is("pay born", rules(x, "pay born").rule(4), 2);
        due.is("pay served", rules(x, "pay born;pay served").rule(4), 0);
        due.is("silence no", rules(x, "silence yes;silence no").rule(1), 0);
        for (int what : new int[] {-1, 5, LOWEST, HIGHEST}) due.is("no such what", x.rule(what), OUTSIDE);
    }

    // ---- 14 to 18: pacts

    private static void pact() {
        due.part("14 pact");
        PartedLand x = four();
        x.change(PART, 5, 0, 0, 1);
        due.is("of a ground", x.pact(OF_GROUND, 1, 5, 0, 5), 0);
        due.is("of rank, ground not looked at", x.pact(OF_RANK, 0, 0, HIGHEST, 0), 1);
        due.is("of trade, ground not looked at", x.pact(OF_TRADE, 1, 0, LOWEST, 999), 2);
        for (int land : new int[] {-1, 2, LOWEST, HIGHEST}) due.is("no land", x.pact(9, land, 0, 0, 0), UNKNOWN);
        for (int third : new int[] {-1, 6, LOWEST, HIGHEST}) due.is("no third", x.pact(9, 0, third, 0, 0), UNKNOWN);
        for (int g : new int[] {-1, 4, LOWEST, HIGHEST}) due.is("no ground", x.pact(OF_GROUND, 0, 0, g, -1), UNKNOWN);
        for (int kind : new int[] {-1, 3, LOWEST, HIGHEST}) due.is("no kind", x.pact(kind, 1, 0, 9, 0), OUTSIDE);
        for (int day : new int[] {-1, 1000, LOWEST, HIGHEST}) due.is("no day", x.pact(2, 0, 0, 0, day), OUTSIDE);
        due.is("land not there yet", x.pact(OF_TRADE, 1, 0, 0, 4), NOT);
        due.is("not its ground", x.pact(OF_GROUND, 0, 0, 0, 5), NOT);
        due.is("its ground ahead", x.pact(OF_GROUND, 0, 0, 0, 4), 3);
        due.is("no such land there with it", x.pact(OF_GROUND, 1, 0, 0, 4), NOT);
        for (int i = 4; i < 12; i++) due.is("more", x.pact(OF_RANK, 0, 1, 0, 0), i);
        due.is("thirteenth", x.pact(OF_RANK, 0, 1, 0, 0), FULL);
        due.is("NOT ahead of FULL", x.pact(OF_RANK, 1, 1, 0, 0), NOT);
        due.is("count", x.count(4), 12);
        PartedLand y = four();
        y.change(FALL, 5, 0, 0, 1);
        due.is("land no more", y.pact(OF_TRADE, 0, 0, 0, 5), NOT);
        due.is("the day ahead", y.pact(OF_TRADE, 0, 0, 0, 4), 0);
    }

    private static void word() {
        due.part("15 word");
        PartedLand x = four();
        x.pact(OF_TRADE, 0, 0, 0, 0);
        x.change(PART, 5, 0, 0, 1);
        for (int p : new int[] {-1, 1, 12, LOWEST, HIGHEST}) due.is("no pact", x.word(p, 0, true, true, -1), UNKNOWN);
        for (int l : new int[] {-1, 2, 10, LOWEST, HIGHEST}) due.is("no land", x.word(0, l, true, true, -1), UNKNOWN);
        for (int d : new int[] {-1, 1000, LOWEST, HIGHEST}) due.is("no day", x.word(0, 0, true, true, d), OUTSIDE);
        due.is("count", x.count(5), 0);
        for (int i = 1; i <= 24; i++) due.is("more", x.word(0, 1, i % 2 == 0, true, i % 3), i);
        due.is("one too many", x.word(0, 1, true, true, 0), FULL);
        due.is("OUTSIDE ahead of FULL", x.word(0, 1, true, true, 1000), OUTSIDE);
        due.is("count", x.count(5), 24);
    }

    private static void voice() {
        due.part("16 voice");
        PartedLand x = four();
        x.change(PART, 5, 0, 0, 1);
        for (int t : new int[] {-1, 6, LOWEST, HIGHEST}) due.is("no third", x.voice(t, 0, true, -1), UNKNOWN);
        for (int l : new int[] {-1, 2, 10, LOWEST, HIGHEST}) due.is("no land", x.voice(0, l, true, -1), UNKNOWN);
        for (int d : new int[] {-1, 1000, LOWEST, HIGHEST}) due.is("no day", x.voice(0, 0, true, d), OUTSIDE);
        due.is("count", x.count(6), 0);
        for (int i = 1; i <= 24; i++) due.is("more", x.voice(i % 6, i % 2, true, 999), i);
        due.is("one too many", x.voice(0, 1, true, 0), FULL);
        due.is("OUTSIDE ahead of FULL", x.voice(0, 1, true, 1000), OUTSIDE);
        due.is("count", x.count(6), 24);
    }

    private static void boundByGround() {
        due.part("17 bound, ground");
        PartedLand x = four();
        x.pact(OF_GROUND, 0, 0, 2, 3);
        x.change(FALL, 5, 0, 0, 5);
        x.change(GIVE, 6, 1, 2, 4);
        x.change(JOIN, 7, 1, 2, 0);
        due.is("ahead", x.bound(0, 2), 0);
        due.is("signed", x.bound(0, 3), 1);
        due.is("fell", x.bound(0, 5), 2);
        due.is("given", x.bound(0, 6), 4);
        due.is("joined", x.bound(0, 7), 2);
        due.is("words don't matter", x.word(0, 1, false, false, 7) * 10 + x.bound(0, 7), 12);
        for (int p : new int[] {-1, 1, LOWEST, HIGHEST}) due.is("no pact", x.bound(p, 1000), UNKNOWN);
        for (int d : new int[] {-1, 1000, LOWEST, HIGHEST}) due.is("no day", x.bound(0, d), OUTSIDE);
    }

    private static void boundByRank() {
        due.part("17 bound, rank");
        PartedLand x = four();
        x.pact(OF_RANK, 0, 0, 0, 3);
        x.change(PART, 5, 0, 0, 1);
        x.change(PART, 5, 0, 0, 2);
        x.voice(0, 2, true, 4);
        due.is("did not say same", x.bound(0, 5), 1);
        x.change(SAME, 6, 2, 0, 0);
        due.is("ahead of same", x.bound(0, 5), 1);
        due.is("said same", x.bound(0, 6), 4);
        due.is("ahead of the pact", x.bound(0, 2), 0);
        x.voice(1, 2, false, 7);
        due.is("as many no", x.bound(0, 7), 1);
        x.voice(1, 2, true, 6);
        due.is("told later of a day ahead", x.bound(0, 7), 1);
        x.voice(1, 2, true, 7);
        due.is("of one day that told last", x.bound(0, 7), 4);
        x.voice(1, 2, true, 8);
        x.voice(0, 2, false, 8);
        due.is("one third has one voice", x.bound(0, 8), 1);
        x.voice(5, 2, true, 9);
        due.is("more yes", x.bound(0, 9), 4);
        x.change(SAME, 20, 1, 0, 0);
        due.is("no voices", x.bound(0, 20), 4);
        x.voice(3, 1, true, 21);
        due.is("of several the least", x.bound(0, 21), 2);
        x.change(JOIN, 30, 0, 1, 0);
        due.is("the least is no more", x.bound(0, 30), 4);
        x.change(FALL, 31, 0, 0, 1);
        due.is("who signed is no more", x.bound(0, 31), 4);
        x.voice(5, 2, false, 32);
        due.is("nobody", x.bound(0, 32), 0);
        x.change(PART, 40, 4, 0, 8);
        x.change(SAME, 40, 5, 0, 0);
        x.voice(2, 5, true, 40);
        due.is("came out of another one", x.bound(0, 40), 0);
        x.pact(OF_RANK, 4, 0, 0, 41);
        due.is("of a later pact", x.bound(1, 41), 32);
        PartedLand y = four();
        y.pact(OF_RANK, 0, 0, 0, 0);
        y.change(PART, 5, 0, 0, 1);
        y.change(PART, 5, 0, 0, 2);
        y.change(PART, 5, 1, 0, 0);
        y.change(GIVE, 6, 0, 1, 4);
        y.change(GIVE, 6, 1, 0, 4);
        y.change(SAME, 6, 2, 0, 0);
        y.voice(0, 1, true, 6);
        due.is("said by one, yes of the other", y.bound(0, 6), 1);
        y.voice(1, 2, true, 7);
        due.is("both of one", y.bound(0, 7), 4);
        y.voice(1, 1, false, 7);
        y.voice(2, 0, false, 7);
        due.is("voices of others don't count", y.bound(0, 7), 4);
        for (int third = 0; third < 6; third++) y.voice(third, 2, third < 3, 8);
        due.is("three of six", y.bound(0, 8), 1);
        y.voice(5, 2, true, 9);
        due.is("four of six", y.bound(0, 9), 4);
        y.voice(4, 2, true, 10);
        y.voice(3, 2, false, 11);
        due.is("five of six, the latest is no", y.bound(0, 11), 4);
        PartedLand z = four();
        z.pact(OF_RANK, 0, 0, 0, 0);
        z.change(PART, 5, 0, 0, 1);
        z.change(SAME, 5, 1, 0, 0);
        z.voice(0, 1, true, 9);
        z.voice(0, 1, false, 8);
        due.is("told first, but the latest by days", z.bound(0, 9), 2);
        due.is("ahead of it", z.bound(0, 8), 1);
    }

    private static void boundByTradeFollow() {
        due.part("17 bound, trade, follow");
        PartedLand x = four();
        x.pact(OF_TRADE, 0, 0, 0, 3);
        x.word(0, 0, false, false, 3);
        x.word(0, 0, true, false, 3);
        x.change(PART, 5, 0, 0, 7);
        due.is("ahead", x.bound(0, 2), 0);
        due.is("who signed, whatever its words", x.bound(0, 3), 1);
        due.is("came out", x.bound(0, 5), 3);
        x.word(0, 1, true, false, 5);
        due.is("the third's word doesn't matter", x.bound(0, 5), 3);
        x.word(0, 1, false, false, 6);
        due.is("no", x.bound(0, 6), 1);
        due.is("ahead of no", x.bound(0, 5), 3);
        x.word(0, 1, false, true, 8);
        x.word(0, 1, false, false, 7);
        due.is("the latest by days", x.bound(0, 8), 3);
        due.is("no still", x.bound(0, 7), 1);
        x.word(0, 1, false, true, 7);
        due.is("of one day that told last", x.bound(0, 7), 3);
        x.word(0, 1, false, false, 10);
        x.change(FALL, 10, 1, 0, 3);
        due.is("came out of one that was not", x.bound(0, 10), 1);
        x.change(FALL, 12, 0, 0, 0);
        due.is("both behind no more", x.bound(0, 12), 1);
        PartedLand z = four();
        z.pact(OF_TRADE, 0, 0, 0, 3);
        z.change(PART, 5, 0, 0, 7);
        z.word(0, 1, false, true, 8);
        z.word(0, 1, false, false, 7);
        due.is("told first, but the latest by days", z.bound(0, 8), 3);
        PartedLand y = four();
        y.pact(OF_TRADE, 0, 0, 0, 3);
        y.pact(OF_TRADE, 0, 0, 0, 3);
        y.change(FALL, 5, 0, 0, 3);
        y.change(FALL, 6, 1, 0, 1);
        y.word(0, 1, false, false, 7);
        y.word(1, 1, false, false, 6);
        due.is("both of a fall", y.bound(0, 5), 6);
        due.is("no of the day behind", y.bound(0, 7), 28);
        due.is("no of the same day", y.bound(1, 6), 4);
        due.is("a third pact", y.pact(OF_TRADE, 4, 0, 0, 7) + y.bound(2, 7), 18);
    }

    private static void boundByTradeJoin() {
        due.part("17 bound, trade, join");
        PartedLand x = four();
        x.change(PART, 1, 0, 0, 3);
        x.pact(OF_TRADE, 1, 0, 0, 3);
        x.pact(OF_TRADE, 0, 0, 0, 3);
        due.is("not who came ahead", x.bound(1, 3), 1);
        x.change(JOIN, 5, 0, 1, 0);
        due.is("joined with who signed", x.bound(0, 5), 1);
        due.is("ahead", x.bound(0, 4), 2);
        due.is("who signed", x.bound(1, 5), 1);
        x.word(0, 0, false, false, 5);
        due.is("words don't matter", x.bound(0, 5), 1);
        x.change(PART, 6, 0, 0, 1);
        due.is("goes on", x.bound(0, 6), 5);
        x.word(0, 2, false, false, 7);
        x.change(PART, 8, 2, 0, 0);
        rules(x, "clean");
        due.is("not with clean", x.bound(0, 8), 0);
        rules(x, "follow");
        PartedLand y = four();
        y.change(PART, 1, 0, 0, 1);
        y.pact(OF_TRADE, 0, 0, 0, 3);
        y.change(PART, 4, 0, 0, 2);
        y.word(0, 2, false, false, 5);
        y.change(JOIN, 5, 1, 2, 0);
        due.is("joined with one that said no on that day", y.bound(0, 5), 1);
        y.change(JOIN, 6, 1, 0, 0);
        due.is("joined with one that was", y.bound(0, 6), 2);
        PartedLand z = four();
        z.change(PART, 1, 0, 0, 1);
        z.pact(OF_TRADE, 0, 0, 0, 3);
        z.change(PART, 4, 0, 0, 2);
        z.word(0, 2, false, false, 6);
        z.change(JOIN, 5, 1, 2, 0);
        due.is("no came too late", z.bound(0, 6), 3);
        PartedLand w = four();
        w.change(PART, 1, 0, 0, 1);
        w.change(PART, 1, 0, 0, 2);
        w.pact(OF_TRADE, 0, 0, 0, 3);
        w.change(PART, 4, 0, 0, 4);
        w.change(JOIN, 5, 1, 3, 0);
        w.change(JOIN, 6, 2, 0, 0);
        due.is("two that joined", w.bound(0, 6), 6);
    }

    private static void boundByTradeClean() {
        due.part("17 bound, trade, clean");
        PartedLand x = four();
        x.pact(OF_TRADE, 0, 0, 0, 3);
        x.change(PART, 5, 0, 0, 1);
        rules(x, "clean;within 10;silence yes");
        due.is("no word", x.bound(0, 5), 1);
        x.word(0, 1, false, true, 16);
        due.is("first yes too late", x.bound(0, 16), 1);
        x.word(0, 1, false, true, 15);
        due.is("first yes in time", x.bound(0, 15), 3);
        due.is("and on", x.bound(0, 16), 3);
        due.is("ahead", x.bound(0, 14), 1);
        rules(x, "clean;within 9;silence yes");
        due.is("within less", x.bound(0, 16), 1);
        rules(x, "clean;within 10");
        due.is("silence no", x.bound(0, 16), 1);
        x.word(0, 1, true, true, 20);
        due.is("the third's yes", x.bound(0, 20), 3);
        due.is("ahead of it", x.bound(0, 19), 1);
        rules(x, "clean;within 10;silence yes");
        x.word(0, 1, true, false, 21);
        due.is("the third's no", x.bound(0, 21), 1);
        x.word(0, 1, true, true, 22);
        x.word(0, 1, false, false, 23);
        due.is("yes again", x.bound(0, 22), 3);
        due.is("its no", x.bound(0, 23), 1);
        x.word(0, 1, false, true, 24);
        due.is("its first yes was in time", x.bound(0, 24), 3);
        PartedLand y = four();
        y.pact(OF_TRADE, 0, 0, 0, 3);
        y.change(PART, 5, 0, 0, 3);
        y.change(PART, 7, 1, 0, 1);
        y.word(0, 1, false, true, 2);
        y.word(0, 2, false, true, 9);
        rules(y, "clean;within 0;silence yes");
        due.is("yes ahead of its coming", y.bound(0, 5), 3);
        due.is("yes two days behind", y.bound(0, 9), 3);
        rules(y, "clean;within 2;silence yes");
        due.is("yes within two days", y.bound(0, 9), 7);
        rules(y, "clean;within 1;silence yes");
        y.pact(OF_TRADE, 0, 0, 0, 0);
        y.word(1, 2, false, true, 7);
        y.word(0, 1, false, true, 7);
        y.word(0, 2, true, true, 7);
        y.word(0, 2, false, false, 7);
        due.is("others' first yes", y.bound(0, 9), 3);
    }

    private static void boundOnOneDay() {
        due.part("17 bound, one day");
        PartedLand x = four();
        x.change(PART, 5, 0, 0, 1);
        x.pact(OF_TRADE, 0, 0, 0, 5);
        due.is("signed behind the change of its day", x.bound(0, 5), 1);
        x.change(PART, 6, 0, 0, 2);
        x.change(FALL, 6, 2, 0, 0);
        x.change(JOIN, 6, 1, 2, 0);
        x.change(PART, 6, 1, 0, 1);
        due.is("one behind the other on a day", x.bound(0, 6), 0b1011);
        x.word(0, 2, false, false, 6);
        due.is("a word of that day", x.bound(0, 6), 1);
        x.word(0, 2, false, true, 7);
        due.is("a word of the day behind", x.bound(0, 7), 1);
    }

    private static void since() {
        due.part("18 since");
        PartedLand x = four();
        x.pact(OF_TRADE, 0, 0, 0, 3);
        x.pact(OF_RANK, 0, 0, 0, 0);
        x.change(PART, 5, 0, 0, 1);
        x.change(PART, 6, 1, 0, 0);
        x.change(SAME, 8, 1, 0, 0);
        due.is("who signed", x.since(0, 0), 3);
        due.is("from day 0", x.since(1, 0), 0);
        due.is("came out", x.since(0, 1), 5);
        due.is("none", x.since(1, 1), NONE);
        x.voice(0, 1, true, 999);
        due.is("the last day", x.since(1, 1), 999);
        x.voice(0, 1, true, 0);
        due.is("by same", x.since(1, 1), 8);
        x.word(0, 1, false, false, 5);
        due.is("no", x.since(0, 1), NONE);
        x.word(0, 1, false, true, 64);
        due.is("by a word", x.since(0, 1), 64);
        due.is("days as told do not go away", x.since(0, 0), 3);
        for (int p : new int[] {-1, 2, LOWEST, HIGHEST}) due.is("no pact", x.since(p, 0), UNKNOWN);
        for (int l : new int[] {-1, 2, LOWEST, HIGHEST}) due.is("no land", x.since(0, l), UNKNOWN);
    }

    // ---- 19 to 24: debts, things, pensions

    private static void debt() {
        due.part("19 debt");
        PartedLand x = four();
        x.change(PART, 5, 0, 0, 1);
        due.is("whole, least", x.debt(0, 1, NONE, 0), 0);
        due.is("of a ground, most", x.debt(1, 9999, 0, 5), 1);
        for (int l : new int[] {-1, 2, LOWEST, HIGHEST}) due.is("no land", x.debt(l, 0, NONE, 0), UNKNOWN);
        for (int g : new int[] {-2, 4, LOWEST, HIGHEST}) due.is("no ground", x.debt(0, 0, g, 0), UNKNOWN);
        for (int s : new int[] {0, -1, 10000, LOWEST, HIGHEST}) due.is("no sum", x.debt(1, s, NONE, 0), OUTSIDE);
        for (int d : new int[] {-1, 1000, LOWEST, HIGHEST}) due.is("no day", x.debt(0, 1, NONE, d), OUTSIDE);
        due.is("not there yet", x.debt(1, 1, NONE, 4), NOT);
        due.is("not its ground", x.debt(0, 1, 0, 5), NOT);
        due.is("not its ground yet", x.debt(1, 1, 0, 4), NOT);
        due.is("its ground then", x.debt(0, 1, 0, 4), 2);
        for (int i = 3; i < 8; i++) due.is("more", x.debt(0, i, i - 5 < 1 ? NONE : i - 5, 9), i);
        due.is("ninth", x.debt(0, 1, NONE, 9), FULL);
        due.is("NOT ahead of FULL", x.debt(1, 1, NONE, 4), NOT);
        due.is("count", x.count(7), 8);
        PartedLand y = four();
        y.change(FALL, 5, 0, 0, 1);
        due.is("no more", y.debt(0, 1, NONE, 5), NOT);
    }

    private static void owes() {
        due.part("20 owes");
        PartedLand x = four();
        x.debt(0, 100, 3, 2);
        x.debt(0, 101, NONE, 2);
        x.change(PART, 5, 0, 0, 9);
        x.debt(0, 50, NONE, 5);
        x.change(GIVE, 7, 1, 0, 8);
        x.change(JOIN, 8, 1, 0, 0);
        due.is("ahead of it", x.owes(0, 0, 1) + x.owes(1, 0, 1), 0);
        due.is("on it", x.owes(0, 0, 2) * 1000 + x.owes(1, 0, 2), 100101);
        due.is("of a ground", x.owes(0, 1, 5), 100);
        due.is("of a ground no more", x.owes(0, 0, 5), 0);
        due.is("of a ground given back", x.owes(0, 0, 7), 100);
        due.is("new land's part, cut", x.owes(1, 1, 5), 50);
        due.is("the rest", x.owes(1, 0, 5), 51);
        due.is("give leaves it", x.owes(1, 1, 7), 50);
        due.is("made behind the change of its day", x.owes(2, 0, 5), 50);
        due.is("made behind the change of its day", x.owes(2, 1, 5), 0);
        due.is("joined", x.owes(1, 1, 8), 101);
        due.is("joined", x.owes(2, 1, 8), 50);
        due.is("no more", x.owes(1, 0, 8), 0);
        for (int d : new int[] {-1, 3, LOWEST, HIGHEST}) due.is("no debt", x.owes(d, 0, 1000), UNKNOWN);
        for (int l : new int[] {-1, 2, LOWEST, HIGHEST}) due.is("no land", x.owes(0, l, 1000), UNKNOWN);
        for (int d : new int[] {-1, 1000, LOWEST, HIGHEST}) due.is("no day", x.owes(0, 0, d), OUTSIDE);
    }

    private static void owesDivided() {
        due.part("20 owes, divided");
        PartedLand x = four();
        x.debt(0, 9999, NONE, 0);
        x.change(FALL, 1, 0, 0, 1);
        x.change(PART, 2, 2, 0, 8);
        int[][] heads = {{0, 999, 9000, 0}, {0, 999, 5000, 4000}};
        for (int land = 0; land < 4; land++) {
            due.is("heads, fall", x.owes(0, land, 1), heads[0][land]);
            due.is("heads, part", x.owes(0, land, 2), heads[1][land]);
        }
        rules(x, "share worth");
        int[] worth = {0, 3999, 5000, 1000};
        for (int land = 0; land < 4; land++) due.is("worth", x.owes(0, land, 2), worth[land]);
        rules(x, "share equal");
        int[] equal = {0, 4999, 2500, 2500};
        for (int land = 0; land < 4; land++) due.is("equal", x.owes(0, land, 2), equal[land]);
        PartedLand y = new PartedLand();
        y.ground(999, 0);
        y.ground(1, 0);
        y.ground(999, 999);
        y.debt(0, 9999, NONE, 0);
        y.change(PART, 1, 0, 0, 3);
        y.change(FALL, 2, 1, 0, 1);
        rules(y, "share worth");
        due.is("worth nothing", y.owes(0, 1, 1), 0);
        y.debt(2, 9, NONE, 2);
        y.change(JOIN, 3, 2, 3, 0);
        y.debt(2, 9, NONE, 3);
        y.change(FALL, 4, 2, 0, 2);
        due.is("all worth 0: as equal", y.owes(2, 4, 4), 4);
        due.is("all worth 0: the rest", y.owes(2, 5, 4), 5);
        rules(y, "share heads");
        due.is("by heads", y.owes(2, 5, 4), 9);
    }

    private static void thing() {
        due.part("21 thing");
        PartedLand x = four();
        due.is("fixed", x.thing(FIXED, LOWEST, 3), 0);
        due.is("moved, least", x.thing(MOVED, 1, HIGHEST), 1);
        due.is("moved, most", x.thing(MOVED, 9999, LOWEST), 2);
        due.is("abroad", x.thing(ABROAD, 0, -1), 3);
        for (int k : new int[] {-1, 3, LOWEST, HIGHEST}) due.is("no kind", x.thing(k, 1, 9), OUTSIDE);
        for (int m : new int[] {0, -1, 10000, LOWEST, HIGHEST}) due.is("not so many", x.thing(MOVED, m, 9), OUTSIDE);
        for (int g : new int[] {-1, 4, LOWEST, HIGHEST}) due.is("no ground", x.thing(FIXED, 1, g), UNKNOWN);
        for (int i = 4; i < 8; i++) due.is("more", x.thing(ABROAD, 0, 0), i);
        due.is("ninth", x.thing(ABROAD, 0, 0), FULL);
        due.is("UNKNOWN ahead of FULL", x.thing(FIXED, 0, 4), UNKNOWN);
        due.is("count", x.count(8), 8);
    }

    private static void owns() {
        due.part("22 owns");
        PartedLand x = four();
        x.thing(FIXED, 77, 1);
        x.thing(MOVED, 101, 0);
        due.is("fixed", x.owns(0, 0, 0), 1);
        due.is("moved", x.owns(1, 0, 0), 101);
        x.change(PART, 0, 0, 0, 3);
        x.change(FALL, 5, 0, 0, 4);
        x.change(JOIN, 7, 3, 1, 0);
        x.thing(MOVED, 101, 0);
        due.is("fixed, parted on day 0", x.owns(0, 1, 0), 1);
        due.is("fixed, no more", x.owns(0, 0, 0), 0);
        due.is("moved, parted on day 0", x.owns(1, 1, 0), 30);
        due.is("moved, the rest", x.owns(1, 0, 0), 71);
        due.is("moved, fall", x.owns(1, 2, 5), 30);
        due.is("moved, other of the fall", x.owns(1, 3, 5), 41);
        due.is("moved, join", x.owns(1, 3, 7), 71);
        due.is("moved, no more", x.owns(1, 0, 5), 0);
        due.is("told behind the changes", x.owns(2, 3, 7), 71);
        due.is("told behind the changes", x.owns(2, 1, 6), 30);
        due.is("by equal", rules(x, "share equal").owns(1, 1, 0), 50);
        for (int t : new int[] {-1, 3, LOWEST, HIGHEST}) due.is("no thing", x.owns(t, 0, 1000), UNKNOWN);
        for (int l : new int[] {-1, 4, LOWEST, HIGHEST}) due.is("no land", x.owns(0, l, 1000), UNKNOWN);
        for (int d : new int[] {-1, 1000, LOWEST, HIGHEST}) due.is("no day", x.owns(0, 0, d), OUTSIDE);
    }

    private static void ownsAbroad() {
        due.part("22 owns, abroad");
        PartedLand x = four();
        x.thing(ABROAD, 0, 0);
        due.is("at first", x.owns(0, 0, 0), 1);
        x.change(PART, 1, 0, 0, 9);
        due.is("as many at part: a", x.owns(0, 0, 1) * 10 + x.owns(0, 1, 1), 10);
        x.change(GIVE, 2, 1, 0, 1);
        x.change(PART, 3, 0, 0, 6);
        due.is("more at part: the new one", x.owns(0, 2, 3) * 10 + x.owns(0, 0, 3), 10);
        x.change(FALL, 4, 2, 0, 2);
        due.is("fewer at fall: the other one", x.owns(0, 4, 4) * 10 + x.owns(0, 3, 4), 10);
        x.change(JOIN, 5, 1, 4, 0);
        due.is("join", x.owns(0, 1, 5), 1);
        x.change(JOIN, 6, 1, 0, 0);
        due.is("join of another one", x.owns(0, 1, 6), 1);
        x.change(FALL, 7, 1, 0, 8);
        due.is("as many at fall: the first one", x.owns(0, 5, 7) * 10 + x.owns(0, 6, 7), 10);
        rules(x, "share equal");
        due.is("equal, part: a", x.owns(0, 0, 3), 1);
        due.is("equal, joined", x.owns(0, 1, 6), 1);
        due.is("equal, fall: the first one", x.owns(0, 5, 7), 1);
        rules(x, "share worth");
        due.is("worth, part", x.owns(0, 0, 1), 1);
        due.is("worth, part, more", x.owns(0, 2, 3), 1);
        due.is("worth, fall", x.owns(0, 3, 4), 1);
        due.is("worth, where it came", x.owns(0, 3, 7), 1);
    }

    private static void served() {
        due.part("23 served");
        PartedLand x = four();
        x.change(FALL, 5, 0, 0, 1);
        for (int l : new int[] {-1, 3, LOWEST, HIGHEST}) due.is("no land", x.served(l, 0, 0), UNKNOWN);
        for (int g : new int[] {-1, 4, LOWEST, HIGHEST}) {
            due.is("no ground, born", x.served(0, g, 0), UNKNOWN);
            due.is("no ground, lives", x.served(0, 0, g), UNKNOWN);
        }
        for (int i = 0; i < 12; i++) due.is("more", x.served(i % 3, i % 4, 3 - i % 4), i);
        due.is("thirteenth", x.served(0, 0, 0), FULL);
        due.is("UNKNOWN ahead of FULL", x.served(0, 0, 4), UNKNOWN);
        due.is("count", x.count(9), 12);
    }

    private static void paid() {
        due.part("24 paid");
        PartedLand x = four();
        x.change(FALL, 5, 0, 0, 3);
        x.served(0, 0, 2);
        x.served(1, 3, 0);
        due.is("by whom it served", x.paid(0, 4), 0);
        due.is("by its heir", x.paid(0, 5), 2);
        due.is("had not come yet", x.paid(1, 4), NONE);
        due.is("had come", x.paid(1, 5), 1);
        x.change(JOIN, 8, 2, 1, 0);
        due.is("by its heir", x.paid(1, 8), 2);
        rules(x, "pay lives");
        due.is("where it lives", x.paid(0, 5) * 10 + x.paid(1, 5), 21);
        due.is("where it lives, ahead", x.paid(0, 4), 0);
        rules(x, "pay born");
        due.is("where it was born", x.paid(0, 5) * 10 + x.paid(1, 5), 12);
        for (int p : new int[] {-1, 2, LOWEST, HIGHEST}) due.is("no pensioner", x.paid(p, 1000), UNKNOWN);
        for (int d : new int[] {-1, 1000, LOWEST, HIGHEST}) due.is("no day", x.paid(0, d), OUTSIDE);
    }

    // ---- 25 to 29: what hangs on what

    private static void hangs() {
        due.part("25 hangs");
        PartedLand x = four();
        due.is("nothing", x.hangs(999, 0), 0);
        due.is("nothing: the first day", x.hangs(999, 1), 1);
        x.pact(OF_TRADE, 0, 0, 0, 0);
        x.pact(OF_GROUND, 0, 0, 3, 2);
        x.pact(OF_TRADE, 0, 0, 0, 2);
        x.change(FALL, 5, 0, 0, 8);
        x.word(0, 1, false, false, 6);
        x.word(2, 1, false, false, 6);
        x.word(2, 1, false, true, 999);
        due.is("not on day 0", x.hangs(1, 0), 0);
        due.is("signed", x.hangs(2, 0), 2);
        due.is("fell", x.hangs(5, 0), 8);
        due.is("no", x.hangs(6, 0), 2);
        due.is("nothing", x.hangs(7, 0), 0);
        due.is("the last day", x.hangs(999, 0), 1);
        due.is("up to 1", x.hangs(1, 1), 1);
        due.is("up to 2", x.hangs(2, 1), 2);
        due.is("up to 4", x.hangs(4, 1), 2);
        due.is("up to 5", x.hangs(5, 1), 5);
        due.is("up to 999", x.hangs(999, 1), 5);
        PartedLand y = four();
        y.pact(OF_RANK, 0, 0, 0, 64);
        y.pact(OF_RANK, 0, 0, 0, 63);
        due.is("of several the first", y.hangs(999, 1), 63);
        y.pact(OF_RANK, 0, 0, 0, 0);
        due.is("day 0 is none of them", y.hangs(62, 1), 1);
        y.voice(0, 0, true, 40);
        due.is("a day on which nothing turned", y.hangs(62, 1), 1);
        PartedLand z = four();
        z.pact(OF_RANK, 0, 0, 0, 1);
        z.pact(OF_TRADE, 0, 0, 0, 2);
        due.is("day 1", z.hangs(999, 1), 1);
        z.change(PART, 3, 0, 0, 1);
        z.change(PART, 3, 0, 0, 2);
        z.word(1, 1, false, false, 3);
        due.is("without the word it were day 3", z.hangs(999, 1), 1);
        z.word(1, 1, false, true, 3);
        due.is("with the other word it is", z.hangs(999, 1), 3);
        for (int d : new int[] {0, -1, 1000, LOWEST, HIGHEST}) {
            due.is("no day", x.hangs(d, 0), OUTSIDE);
            due.is("no day", x.hangs(d, 1), OUTSIDE);
        }
        for (int what : new int[] {-1, 2, LOWEST, HIGHEST}) due.is("no such what", x.hangs(1, what), OUTSIDE);
    }

    private static void without() {
        due.part("26 without");
        PartedLand x = four();
        x.pact(OF_TRADE, 0, 0, 0, 0);
        x.pact(OF_TRADE, 0, 0, 0, 0);
        x.change(PART, 5, 0, 0, 3);
        x.word(1, 1, false, false, 5);
        x.word(0, 1, false, true, 6);
        x.word(0, 1, false, false, 7);
        x.word(0, 1, false, false, 8);
        due.is("none need be", x.without(0, 1, 8, false), 0);
        due.is("two of them", x.without(0, 1, 8, true), 0b1100);
        due.is("one of them", x.without(0, 1, 7, true), 0b100);
        due.is("none need be", x.without(0, 1, 6, true), 0);
        due.is("cannot be", x.without(0, 1, 6, false), NONE);
        due.is("about the other pact", x.without(1, 1, 8, true), 1);
        due.is("not there", x.without(0, 1, 4, true), NONE);
        due.is("not there", x.without(0, 1, 4, false), 0);
        due.is("who signed", x.without(0, 0, 8, false), NONE);
        x.change(PART, 8, 1, 0, 1);
        due.is("by that out of which it came", x.without(0, 2, 8, true), 0b1100);
        for (int p : new int[] {-1, 2, LOWEST, HIGHEST}) due.is("no pact", x.without(p, 0, -1, true), UNKNOWN);
        for (int l : new int[] {-1, 3, LOWEST, HIGHEST}) due.is("no land", x.without(0, l, -1, true), UNKNOWN);
        for (int d : new int[] {-1, 1000, LOWEST, HIGHEST}) due.is("no day", x.without(0, 0, d, true), OUTSIDE);
        PartedLand y = four();
        y.pact(OF_TRADE, 0, 0, 0, 0);
        y.change(PART, 5, 0, 0, 3);
        rules(y, "clean;within 10");
        y.word(0, 1, false, true, 6);
        y.word(0, 1, true, true, 6);
        due.is("of several the least", y.without(0, 1, 9, false), 1);
        for (int i = 2; i < 10; i++) y.word(0, 0, false, true, 6);
        y.word(0, 1, true, false, 7);
        due.is("the eleventh stays", y.without(0, 1, 7, true), NONE);
        due.is("ahead of it", y.without(0, 1, 6, true), 0);
        PartedLand z = four();
        z.pact(OF_TRADE, 0, 0, 0, 0);
        z.change(PART, 5, 0, 0, 3);
        for (int i = 0; i < 9; i++) z.word(0, 0, false, true, 6);
        z.word(0, 1, false, false, 6);
        due.is("the tenth", z.without(0, 1, 7, true), 512);
    }

    private static void burden() {
        due.part("27 burden");
        PartedLand x = four();
        due.is("nothing", x.burden(0, 0, 0), 100000);
        x.debt(0, 1000, NONE, 2);
        x.debt(0, 10, 3, 2);
        x.thing(MOVED, 100, 0);
        x.thing(FIXED, 0, 0);
        x.thing(ABROAD, 0, 0);
        x.thing(ABROAD, 0, 0);
        x.change(PART, 5, 0, 0, 7);
        due.is("ahead of the debts", x.burden(0, 1, 0), 99898);
        due.is("with the debts", x.burden(0, 2, 0), 100908);
        due.is("not there yet", x.burden(1, 4, 0), 100000);
        due.is("heads, new", x.burden(1, 5, 0), 100000 + 600 - 60 - 2);
        due.is("heads, a", x.burden(0, 5, 0), 100000 + 400 - 40 + 10);
        due.is("worth, new", x.burden(1, 5, 1), 100000 + 900 - 90 - 2);
        due.is("worth, a", x.burden(0, 5, 1), 100000 + 100 - 10 + 10);
        due.is("equal, new", x.burden(1, 5, 2), 100000 + 500 - 50);
        due.is("equal, a", x.burden(0, 5, 2), 100000 + 500 - 50 + 10 - 2);
        rules(x, "share equal");
        due.is("the rules don't matter", x.burden(1, 5, 0), 100538);
        for (int l : new int[] {-1, 2, LOWEST, HIGHEST}) due.is("no land", x.burden(l, -1, 0), UNKNOWN);
        for (int d : new int[] {-1, 1000, LOWEST, HIGHEST}) due.is("no day", x.burden(0, d, 0), OUTSIDE);
        for (int s : new int[] {-1, 3, LOWEST, HIGHEST}) due.is("no share", x.burden(0, 0, s), OUTSIDE);
    }

    private static void best() {
        due.part("28 best");
        PartedLand x = four();
        x.debt(0, 1000, NONE, 2);
        due.is("of several the first", x.best(0, 2), 0);
        x.change(PART, 5, 0, 0, 7);
        x.change(PART, 6, 1, 0, 3);
        due.is("worth", x.best(0, 5), 1);
        due.is("equal", x.best(1, 5), 2);
        due.is("worth, last", x.best(2, 6), 2);
        due.is("heads, not there", x.best(2, 5), 0);
        PartedLand y = four();
        y.debt(0, 1000, NONE, 2);
        y.change(PART, 5, 0, 0, 3);
        due.is("heads", y.best(1, 5), 0);
        for (int l : new int[] {-1, 3, LOWEST, HIGHEST}) due.is("no land", x.best(l, -1), UNKNOWN);
        for (int d : new int[] {-1, 1000, LOWEST, HIGHEST}) due.is("no day", x.best(0, d), OUTSIDE);
    }

    private static void count() {
        due.part("29 count");
        PartedLand x = four();
        x.change(PART, 1, 0, 0, 7);
        x.change(FALL, 1, 1, 0, 3);
        x.change(JOIN, 2, 2, 3, 0);
        text(x, "pay lives");
        for (int i = 0; i < 5; i++) x.pact(OF_RANK, 0, 0, 0, 0);
        for (int i = 0; i < 6; i++) x.word(0, 0, true, true, 0);
        for (int i = 0; i < 7; i++) x.voice(0, 0, true, 0);
        for (int i = 0; i < 8; i++) x.debt(0, 1, NONE, 0);
        x.thing(ABROAD, 0, 0);
        x.served(0, 0, 0);
        x.served(0, 0, 0);
        int[] want = {4, 4, 3, 9, 5, 6, 7, 8, 1, 2};
        for (int what = 0; what < 10; what++) due.is("count " + what, x.count(what), want[what]);
        for (int what : new int[] {-1, 10, LOWEST, HIGHEST}) due.is("no such what", x.count(what), OUTSIDE);
    }
}
