/** The boundaries of GROUNDS, LANDS, DAYS and CHANGES: the document's Terms, part 1, and promises 1 to 8. */
public final class GroundsEdgeTest extends Edges {
    public static void main(String[] args) {
        grounds();
        headsAndWorth();
        tenLands();
        tenLandsByFall();
        landZero();
        days();
        twelveChanges();
        daysOfChanges();
        doneOnADay();
        doneInTheirOrder();
        part();
        fall();
        join();
        give();
        same();
        heirItself();
        heirByHeads();
        heirByJoin();
        heirAtTheEndOfALongRow();
        newObject();
        groundRefused();
        changeAnswers();
        changeKind();
        changeDay();
        changeDayBehindPacts();
        changeDayBehindDebts();
        changeLandNotThere();
        changeOneLand();
        changeSet();
        changeSame();
        changeNotLookedAt();
        landsByBits();
        hasNothing();
        hasOfNoLand();
        whose();
        from();
        heirNotCome();
        due.end();
    }

    // ---- Terms, part 1

    private static void grounds() {
        due.sentence("GROUNDS are 0 .. 7 (none at first)");
        PartedLand x = new PartedLand();
        for (int many = 0; many <= 8; many++) {
            due.is("how many", x.count(0), many);
            due.is("all of them", x.has(0, 0), (1 << many) - 1);
            if (many > 0) due.is("the last one's", x.whose(many - 1, 0), 0);
            due.each("none", noneOf(many), g -> x.whose(g, 0), UNKNOWN);
            due.is("one more", x.ground(1, 1), many < 8 ? many : FULL);
        }
        due.is("eight", x.count(0), 8);
        due.is("all eight", x.has(0, 0), 255);
    }

    private static void headsAndWorth() {
        due.sentence("each with HEADS (1 .. 999) and WORTH (0 .. 999)");
        PartedLand x = new PartedLand();
        due.each("heads", besides(1, 999), h -> x.ground(h, 5), OUTSIDE);
        due.each("worth", besides(0, 999), w -> x.ground(5, w), OUTSIDE);
        due.is("none of these is one", x.count(0), 0);
        due.is("least of both", x.ground(1, 0), 0);
        due.is("most of both", x.ground(999, 999), 1);
        due.is("least heads, most worth", x.ground(1, 999), 2);
        due.is("most heads, least worth", x.ground(999, 0), 3);
        debt(x, 0, 2000, NONE, 0);
        debt(x, 0, 1998, NONE, 0);
        change(x, PART, 1, 0, 0, bits(0, 1));
        change(x, PART, 2, 1, 0, bits(0));
        due.is("1000 of 2000 heads", x.owes(0, 1, 1), 1000);
        due.is("1 of 1000 heads", x.owes(0, 2, 2), 1);
        due.is("999 of 1000 heads", x.owes(0, 1, 2), 999);
        rules(x, "share worth");
        due.is("999 of 1998 worth", x.owes(1, 1, 1), 999);
        due.is("0 of 999 worth", x.owes(1, 2, 2), 0);
    }

    private static void tenLands() {
        due.sentence("LANDS are numbered as they come, 10 at most");
        PartedLand x = alike(8);
        for (int land = 1; land < 8; land++) due.is("part", x.change(PART, land, 0, 0, bits(land)), land);
        change(x, JOIN, 8, 0, 1, 0);
        due.is("ninth", x.change(PART, 9, 0, 0, bits(1)), 8);
        due.is("nine", x.count(1), 9);
        change(x, JOIN, 10, 0, 8, 0);
        due.is("tenth and eleventh by fall", x.change(FALL, 11, 0, 0, bits(1)), FULL);
        due.is("nine still", x.count(1), 9);
        due.each("no tenth land", noneOf(9), land -> x.has(land, 11), UNKNOWN);
        due.is("tenth", x.change(PART, 11, 0, 0, bits(1)), 9);
        due.is("ten", x.count(1), 10);
        due.is("the tenth land's", x.has(9, 11), bits(1));
        due.is("who are there", x.lands(11), bits(0, 2, 3, 4, 5, 6, 7, 9));
        due.each("no eleventh land", noneOf(10), land -> x.has(land, 11), UNKNOWN);
    }

    private static void tenLandsByFall() {
        due.sentence("LANDS are numbered as they come, 10 at most");
        PartedLand x = alike(8);
        for (int land = 1; land < 8; land++) change(x, PART, land, 0, 0, bits(land));
        change(x, JOIN, 8, 0, 1, 0);
        due.is("ninth and tenth", x.change(FALL, 9, 0, 0, bits(1)), 8);
        due.is("ten", x.count(1), 10);
        due.is("the ninth land's", x.has(8, 9), bits(1));
        due.is("the tenth land's", x.has(9, 9), bits(0));
        change(x, JOIN, 10, 9, 8, 0);
        due.is("eleventh by part", x.change(PART, 11, 9, 0, bits(0)), FULL);
        due.is("eleventh and twelfth by fall", x.change(FALL, 11, 9, 0, bits(0)), FULL);
        due.is("give needs no land more", x.change(GIVE, 11, 9, 2, bits(0)), 9);
        due.is("same needs no land more", x.change(SAME, 12, 9, 0, 0), 9);
        due.is("ten still", x.count(1), 10);
    }

    private static void landZero() {
        due.sentence("LAND 0 is there from the beginning and has all GROUNDS");
        PartedLand x = alike(8);
        due.is("there on day 0", x.lands(0), bits(0));
        due.is("has all on day 0", x.has(0, 0), 255);
        due.is("and on the last day", x.has(0, 999), 255);
        change(x, FALL, 0, 0, 0, bits(0));
        due.is("fell on day 0", x.lands(0), bits(1, 2));
        due.is("has none on day 0", x.has(0, 0), 0);
    }

    private static void days() {
        due.sentence("DAYS are 0 .. 999");
        PartedLand x = alike(3);
        due.is("change on the first day", x.change(PART, 0, 0, 0, bits(1)), 1);
        pact(x, OF_TRADE, 0, 0, 0);
        pact(x, OF_TRADE, 0, 0, 998);
        debt(x, 0, 5, NONE, 0);
        debt(x, 0, 5, NONE, 998);
        due.is("change on the last day", x.change(PART, 999, 0, 0, bits(2)), 2);
        pact(x, OF_TRADE, 2, 0, 999);
        debt(x, 2, 5, NONE, 999);
        says(x, 1, true, 0);
        says(x, 1, true, 999);
        voice(x, 0, 1, true, 0);
        voice(x, 0, 1, true, 999);
        thing(x, MOVED, 5, 0);
        x.served(0, 0, 0);
        int[] want = {bits(0, 1), bits(0, 1, 2)};
        for (int day : new int[] {0, 999}) {
            int last = day / 999;
            due.is("lands", x.lands(day), want[last]);
            due.is("has", x.has(2, day), last == 1 ? bits(2) : 0);
            due.is("whose", x.whose(2, day), last == 1 ? 2 : 0);
            due.is("heir", x.heir(2, day), last == 1 ? 2 : NONE);
            due.is("bound", x.bound(2, day), last == 1 ? bits(2) : 0);
            due.is("owes", x.owes(2, 2, day), last == 1 ? 5 : 0);
            due.is("owns", x.owns(0, 2, day), last == 1 ? 2 : 0);
            due.is("paid", x.paid(0, day), 0);
            due.is("without", x.without(0, 0, day, true), 0);
            due.is("burden", x.burden(2, day, 0), last == 1 ? 100000 + 2 + 2 + 5 - 2 : 100000);
            due.is("best", x.best(1, day), 2);
        }
        due.is("hangs", x.hangs(999, 0), 3);
        noDays(x);
    }

    private static void noDays(PartedLand x) {
        due.each("change", NO_DAYS, d -> x.change(SAME, d, 1, 0, 0), OUTSIDE);
        due.each("lands", NO_DAYS, x::lands, OUTSIDE);
        due.each("has", NO_DAYS, d -> x.has(0, d), OUTSIDE);
        due.each("whose", NO_DAYS, d -> x.whose(0, d), OUTSIDE);
        due.each("heir", NO_DAYS, d -> x.heir(0, d), OUTSIDE);
        due.each("pact", NO_DAYS, d -> x.pact(OF_TRADE, 0, 0, 0, d), OUTSIDE);
        due.each("word", NO_DAYS, d -> x.word(0, 0, false, false, d), OUTSIDE);
        due.each("voice", NO_DAYS, d -> x.voice(0, 0, false, d), OUTSIDE);
        due.each("bound", NO_DAYS, d -> x.bound(0, d), OUTSIDE);
        due.each("debt", NO_DAYS, d -> x.debt(0, 5, NONE, d), OUTSIDE);
        due.each("owes", NO_DAYS, d -> x.owes(0, 0, d), OUTSIDE);
        due.each("owns", NO_DAYS, d -> x.owns(0, 0, d), OUTSIDE);
        due.each("paid", NO_DAYS, d -> x.paid(0, d), OUTSIDE);
        due.each("without", NO_DAYS, d -> x.without(0, 0, d, true), OUTSIDE);
        due.each("burden", NO_DAYS, d -> x.burden(0, d, 0), OUTSIDE);
        due.each("best", NO_DAYS, d -> x.best(0, d), OUTSIDE);
        due.each("hangs", NO_DAYS, d -> x.hangs(d, 0), OUTSIDE);
        due.each("hangs", NO_DAYS, d -> x.hangs(d, 1), OUTSIDE);
    }

    private static void twelveChanges() {
        due.sentence("CHANGES are a row of 12 at most");
        for (int kind = PART; kind <= SAME; kind++) {
            PartedLand x = alike(8);
            change(x, PART, 0, 0, 0, bits(0, 1));
            for (int i = 2; i < 12; i++) change(x, SAME, 0, 1, 0, 0);
            due.is("eleven", x.count(2), 11);
            due.is("twelfth", x.change(GIVE, 0, 0, 1, bits(2)), 0);
            due.is("twelve", x.count(2), 12);
            due.is("the twelfth is done", x.has(1, 0), bits(0, 1, 2));
            due.is("thirteenth", x.change(kind, 0, 1, 0, bits(0)), FULL);
            due.is("twelve still", x.count(2), 12);
            due.is("the thirteenth is not done", x.has(1, 999), bits(0, 1, 2));
        }
    }

    private static void daysOfChanges() {
        due.sentence("each on a DAY not below that of the one ahead");
        PartedLand x = alike(4);
        change(x, PART, 500, 0, 0, bits(1));
        due.is("a day below", x.change(SAME, 499, 1, 0, 0), OUTSIDE);
        due.is("day 0", x.change(SAME, 0, 1, 0, 0), OUTSIDE);
        due.is("the same day", x.change(SAME, 500, 1, 0, 0), 1);
        due.is("a day above", x.change(SAME, 501, 1, 0, 0), 1);
        due.is("now below", x.change(SAME, 500, 1, 0, 0), OUTSIDE);
        due.is("the last day", x.change(SAME, 999, 1, 0, 0), 1);
        due.is("the last day again", x.change(SAME, 999, 1, 0, 0), 1);
        due.is("below the last day", x.change(SAME, 998, 1, 0, 0), OUTSIDE);
        PartedLand y = alike(2);
        due.is("day 0, none ahead", y.change(PART, 0, 0, 0, bits(1)), 1);
        due.is("day 0 again", y.change(SAME, 0, 1, 0, 0), 1);
    }

    private static void doneOnADay() {
        due.sentence("on a DAY all CHANGES of DAYS up to it are done");
        PartedLand x = alike(3);
        change(x, PART, 500, 0, 0, bits(1));
        change(x, PART, 501, 0, 0, bits(2));
        int[] days = {0, 499, 500, 501, 502, 999};
        int[] lands = {1, 1, 3, 7, 7, 7};
        int[] has = {7, 7, 5, 1, 1, 1};
        for (int i = 0; i < days.length; i++) {
            due.is("lands on day " + days[i], x.lands(days[i]), lands[i]);
            due.is("has on day " + days[i], x.has(0, days[i]), has[i]);
            due.is("whose on day " + days[i], x.whose(1, days[i]), days[i] < 500 ? 0 : 1);
        }
    }

    private static void doneInTheirOrder() {
        due.sentence("on a DAY all CHANGES of DAYS up to it are done, in their order");
        PartedLand x = alike(3);
        change(x, PART, 7, 0, 0, bits(0, 1));
        change(x, GIVE, 7, 1, 0, bits(0));
        change(x, GIVE, 7, 0, 1, bits(2));
        change(x, GIVE, 7, 1, 0, bits(1));
        due.is("of land 0", x.has(0, 7), bits(0, 1));
        due.is("of land 1", x.has(1, 7), bits(2));
        due.is("a day ahead", x.has(0, 6), bits(0, 1, 2));
    }

    private static void part() {
        due.sentence("PART: a LAND a goes on without some of its GROUNDS; the next LAND has these.");
        PartedLand x = alike(8);
        due.is("all but one", x.change(PART, 1, 0, 0, 127), 1);
        due.is("goes on", x.lands(1), bits(0, 1));
        due.is("a", x.has(0, 1), 128);
        due.is("the next one", x.has(1, 1), 127);
        due.is("one of them", x.change(PART, 2, 1, 0, 64), 2);
        due.is("a", x.has(1, 2), 63);
        due.is("the next one", x.has(2, 2), 64);
        due.is("one of two", x.change(GIVE, 3, 1, 2, 1) * 10 + x.change(PART, 3, 2, 0, 1), 13);
        due.is("the one parted", x.has(3, 3), 1);
        due.is("the one left", x.has(2, 3), 64);
    }

    private static void fall() {
        due.sentence("FALL: a LAND a is no more; the next LAND has some of its GROUNDS, the one behind that the others.");
        PartedLand x = alike(8);
        due.is("one of them", x.change(FALL, 1, 0, 0, 128), 1);
        due.is("is no more", x.lands(1), bits(1, 2));
        due.is("a", x.has(0, 1), 0);
        due.is("the next one", x.has(1, 1), 128);
        due.is("the one behind", x.has(2, 1), 127);
        due.is("all but one", x.change(FALL, 2, 2, 0, 126), 3);
        due.is("the next one", x.has(3, 2), 126);
        due.is("the one behind", x.has(4, 2), 1);
        due.is("who are there", x.lands(2), bits(1, 3, 4));
    }

    private static void join() {
        due.sentence("JOIN: a LAND b is no more; a has its GROUNDS, too.");
        PartedLand x = alike(8);
        change(x, PART, 1, 0, 0, 15);
        due.is("into the first one", x.change(JOIN, 2, 0, 1, 0), 0);
        due.is("all again", x.has(0, 2), 255);
        due.is("b has none", x.has(1, 2), 0);
        due.is("b is no more", x.lands(2), bits(0));
        change(x, PART, 3, 0, 0, 1);
        due.is("land 0 into another one", x.change(JOIN, 4, 2, 0, 0), 2);
        due.is("all again", x.has(2, 4), 255);
        due.is("land 0 is no more", x.lands(4), bits(2));
    }

    private static void give() {
        due.sentence("GIVE: b has some GROUNDS of a.");
        PartedLand x = alike(8);
        change(x, PART, 1, 0, 0, 1);
        due.is("all but one", x.change(GIVE, 2, 0, 1, 126), 0);
        due.is("a keeps one", x.has(0, 2), 128);
        due.is("b", x.has(1, 2), 127);
        due.is("one back", x.change(GIVE, 3, 1, 0, 64), 1);
        due.is("a", x.has(1, 3), 63);
        due.is("b", x.has(0, 3), 192);
        due.is("both are there", x.lands(3), bits(0, 1));
        due.is("no land came", x.count(1), 2);
    }

    private static void same() {
        due.sentence("SAME: a LAND a that came by PART or FALL says that it is the LAND out of which it came.");
        PartedLand x = alike(4);
        due.is("land 0 did not come so", x.change(SAME, 0, 0, 0, 0), NOT);
        change(x, PART, 1, 0, 0, 1);
        change(x, FALL, 1, 0, 0, 2);
        for (int land = 1; land < 4; land++) due.is("came so", x.change(SAME, 1, land, 0, 0), land);
        due.is("lands stay", x.lands(1), bits(1, 2, 3));
        due.is("grounds stay", x.has(1, 1) * 100 + x.has(2, 1) * 10 + x.has(3, 1), 132);
    }

    private static void heirItself() {
        due.sentence("HEIR of a LAND on a DAY: itself, if it is there");
        PartedLand x = alike(4);
        change(x, PART, 5, 0, 0, 1);
        change(x, FALL, 9, 0, 0, 2);
        due.is("on day 0", x.heir(0, 0), 0);
        due.is("goes on behind a part", x.heir(0, 5), 0);
        due.is("a day ahead of its end", x.heir(0, 8), 0);
        due.is("on the day of its end", x.heir(0, 9), 3);
        due.is("on the day on which it came", x.heir(1, 5), 1);
        due.is("on the last day", x.heir(1, 999), 1);
    }

    private static void heirByHeads() {
        due.sentence("that one of both that had more HEADS when it came (of like ones the first)");
        int[][] heads = {{500, 499, 1}, {500, 500, 1}, {499, 500, 2}, {1, 999, 2}, {999, 1, 1}};
        for (int[] h : heads) {
            PartedLand x = land(h[0], 0, h[1], 999);
            change(x, FALL, 3, 0, 0, bits(0));
            due.is(h[0] + " and " + h[1] + " heads", x.heir(0, 3), h[2]);
            rules(x, "share worth");
            due.is("whatever the rules", x.heir(0, 3), h[2]);
        }
        PartedLand y = land(10, 0, 1, 0, 10, 0);
        change(y, FALL, 3, 0, 0, bits(0));
        change(y, GIVE, 3, 2, 1, bits(2));
        due.is("when it came, not later on that day", y.heir(0, 3), 2);
        PartedLand z = land(1, 0, 2, 0, 4, 0);
        change(z, FALL, 3, 0, 0, bits(0, 1));
        due.is("heads together, 3 and 4", z.heir(0, 3), 2);
    }

    private static void heirByJoin() {
        due.sentence("if it joined, the HEIR of the other one");
        PartedLand x = land(1, 0, 2, 0, 4, 0);
        change(x, PART, 1, 0, 0, bits(0));
        change(x, JOIN, 2, 1, 0, 0);
        due.is("of who joined", x.heir(0, 2), 1);
        due.is("of the other one itself", x.heir(1, 2), 1);
        due.is("a day ahead", x.heir(0, 1), 0);
        change(x, FALL, 3, 1, 0, bits(2));
        due.is("the heir of the other one", x.heir(0, 3), 2);
        change(x, JOIN, 3, 3, 2, 0);
        due.is("and of that one, on the same day", x.heir(0, 3), 3);
        due.is("a day ahead", x.heir(0, 2), 1);
    }

    private static void heirAtTheEndOfALongRow() {
        due.sentence("if it joined, the HEIR of the other one");
        PartedLand x = alike(8);
        change(x, FALL, 1, 0, 0, bits(0));
        change(x, FALL, 2, 2, 0, bits(1));
        change(x, FALL, 3, 4, 0, bits(2));
        change(x, FALL, 4, 6, 0, bits(3));
        change(x, JOIN, 5, 1, 8, 0);
        change(x, JOIN, 6, 3, 1, 0);
        change(x, JOIN, 7, 5, 3, 0);
        change(x, JOIN, 8, 7, 5, 0);
        int[] heirs = {0, 2, 4, 6, 8, 1, 3, 5, 7};
        for (int day = 0; day < heirs.length; day++) due.is("on day " + day, x.heir(0, day), heirs[day]);
        due.is("the only one", x.lands(8), bits(7));
    }

    // ---- promises 1 to 8

    private static void newObject() {
        due.sentence("`PartedLand()`: LAND 0 without GROUNDS.");
        PartedLand x = new PartedLand();
        due.is("lands", x.lands(0), bits(0));
        due.is("one came", x.count(1), 1);
        due.is("has none", x.has(0, 0) + x.has(0, 999), 0);
        due.is("no grounds", x.count(0), 0);
        due.is("nothing to part", x.change(PART, 0, 0, 0, 1), NOT);
        due.is("nothing to fall", x.change(FALL, 0, 0, 0, 1), NOT);
    }

    private static void groundRefused() {
        due.sentence("A GROUND more of LAND 0: its number. OUTSIDE; NOT: a CHANGE was told; FULL.");
        PartedLand x = alike(2);
        due.is("a change that is refused", x.change(SAME, 0, 0, 0, 0), NOT);
        due.is("was not told", x.ground(1, 1), 2);
        pact(x, OF_TRADE, 0, 0, 50);
        debt(x, 0, 1, NONE, 50);
        says(x, 0, true, 60);
        due.is("pacts, debts and words don't bar", x.ground(1, 1), 3);
        change(x, PART, 999, 0, 0, 1);
        due.is("a change was told, though of the last day", x.ground(1, 1), NOT);
        due.is("count", x.count(0), 4);
    }

    private static void changeAnswers() {
        due.sentence("A CHANGE: the first LAND that comes (PART, FALL), a (others).");
        PartedLand x = alike(8);
        due.is("part", x.change(PART, 0, 0, 0, 1), 1);
        due.is("part", x.change(PART, 0, 0, 0, 2), 2);
        due.is("fall", x.change(FALL, 0, 0, 0, 4), 3);
        due.is("fall", x.change(FALL, 0, 4, 0, 8), 5);
        due.is("join", x.change(JOIN, 0, 3, 1, 0), 3);
        due.is("give", x.change(GIVE, 0, 6, 2, 16), 6);
        due.is("same", x.change(SAME, 0, 5, 0, 0), 5);
    }

    private static void changeKind() {
        due.sentence("OUTSIDE: kind, DAY (0 .. 999;");
        PartedLand x = alike(4);
        change(x, PART, 0, 0, 0, 1);
        due.each("no kind", noneOf(5), kind -> x.change(kind, 0, 0, 1, 2), OUTSIDE);
        due.each("no kind, no land", noneOf(5), kind -> x.change(kind, 0, 7, 7, 0), OUTSIDE);
        due.is("one change", x.count(2), 1);
    }

    private static void changeDay() {
        due.sentence("below that of the latest CHANGE, or not above that of each PACT and debt");
        PartedLand x = alike(4);
        change(x, PART, 5, 0, 0, 1);
        pact(x, OF_TRADE, 0, 0, 5);
        due.is("above the pact's only", x.change(SAME, 5, 1, 0, 0), OUTSIDE);
        debt(x, 0, 1, NONE, 6);
        due.is("above the pact's, on the debt's", x.change(SAME, 6, 1, 0, 0), OUTSIDE);
        due.is("above both", x.change(SAME, 7, 1, 0, 0), 1);
        pact(x, OF_TRADE, 0, 0, 3);
        debt(x, 0, 1, NONE, 3);
        due.is("told of days ahead", x.change(SAME, 7, 1, 0, 0), 1);
        says(x, 1, true, 999);
        thirdSays(x, 1, true, 999);
        voice(x, 0, 1, true, 999);
        thing(x, MOVED, 5, 0);
        x.served(0, 0, 0);
        due.is("words, voices, things, pensioners don't bar", x.change(SAME, 7, 1, 0, 0), 1);
    }

    private static void changeDayBehindPacts() {
        due.sentence("not above that of each PACT and debt");
        for (int day : new int[] {0, 1, 500, 998, 999}) {
            PartedLand x = alike(4);
            pact(x, OF_RANK, 0, 0, day);
            pact(x, OF_GROUND, 0, 0, 0);
            if (day > 0) due.is("a day below " + day, x.change(PART, day - 1, 0, 0, 1), OUTSIDE);
            due.is("day " + day, x.change(PART, day, 0, 0, 1), OUTSIDE);
            due.is("a day above " + day, x.change(PART, day + 1, 0, 0, 1), day < 999 ? 1 : OUTSIDE);
        }
    }

    private static void changeDayBehindDebts() {
        due.sentence("not above that of each PACT and debt");
        for (int day : new int[] {0, 1, 500, 998, 999}) {
            PartedLand x = alike(4);
            debt(x, 0, 1, 3, day);
            debt(x, 0, 1, NONE, 0);
            if (day > 0) due.is("a day below " + day, x.change(PART, day - 1, 0, 0, 1), OUTSIDE);
            due.is("day " + day, x.change(PART, day, 0, 0, 1), OUTSIDE);
            due.is("a day above " + day, x.change(PART, day + 1, 0, 0, 1), day < 999 ? 1 : OUTSIDE);
        }
    }

    private static void changeLandNotThere() {
        due.sentence("UNKNOWN: a, or b (JOIN, GIVE), is not there then");
        PartedLand x = alike(6);
        change(x, FALL, 1, 0, 0, bits(0, 1, 2));
        change(x, JOIN, 2, 1, 2, 0);
        change(x, PART, 2, 1, 0, bits(0));
        for (int kind = PART; kind <= SAME; kind++) {
            int k = kind;
            due.each("never came, " + k, noneOf(4), a -> x.change(k, 2, a, 3, bits(1)), UNKNOWN);
            due.is("fell apart, " + k, x.change(k, 2, 0, 3, bits(1)), UNKNOWN);
            due.is("joined, " + k, x.change(k, 2, 2, 3, bits(1)), UNKNOWN);
        }
        for (int kind : new int[] {JOIN, GIVE}) {
            due.each("never came, b, " + kind, noneOf(4), b -> x.change(kind, 2, 1, b, bits(1)), UNKNOWN);
            due.is("fell apart, b, " + kind, x.change(kind, 2, 1, 0, bits(1)), UNKNOWN);
            due.is("joined, b, " + kind, x.change(kind, 2, 1, 2, bits(1)), UNKNOWN);
        }
        due.is("three changes", x.count(2), 3);
        due.is("both are there", x.change(GIVE, 2, 1, 3, bits(1)), 1);
        due.is("and now", x.change(JOIN, 2, 3, 1, 0), 3);
    }

    private static void changeOneLand() {
        due.sentence("NOT: a and b are one");
        PartedLand x = alike(4);
        change(x, PART, 1, 0, 0, bits(0, 1));
        for (int land = 0; land < 2; land++) {
            due.is("join", x.change(JOIN, 1, land, land, 0), NOT);
            due.is("give", x.change(GIVE, 1, land, land, land == 0 ? bits(2) : bits(0)), NOT);
        }
        due.is("of the others it does not matter", x.change(PART, 1, 1, 1, bits(0)), 2);
        due.is("of the others it does not matter", x.change(SAME, 1, 1, 1, 0), 1);
        due.is("of the others it does not matter", x.change(FALL, 1, 0, 0, bits(2)), 3);
    }

    private static void changeSet() {
        due.sentence("set is not some of a's GROUNDS, but not all (PART, FALL, GIVE)");
        PartedLand x = alike(6);
        change(x, PART, 1, 0, 0, bits(0, 1));
        change(x, PART, 1, 0, 0, bits(2));
        int[] none = {0, 1, 2, 3, 4, 57, 58, 60, 63, 56, 64, 128, 255, 256, 8 | 64, 8 | 256, 8 | 1 << 30, 8 | LOWEST,
            LOWEST, HIGHEST, -1, ~56, 8 << 8, 8 << 16, ~7};
        int[] one = {0, 4, 1, 5, 3, 8, 36, LOWEST, 4 | LOWEST, -1};
        for (int kind : new int[] {PART, FALL, GIVE}) {
            due.each("of grounds 3 .. 5, " + kind, none, set -> x.change(kind, 1, 0, 1, set), NOT);
            due.each("of ground 2 alone, " + kind, one, set -> x.change(kind, 1, 2, 1, set), NOT);
        }
        due.is("two changes", x.count(2), 2);
        for (int set : new int[] {8, 16, 32, 8 | 16, 8 | 32, 16 | 32}) {
            PartedLand y = alike(6);
            change(y, PART, 1, 0, 0, bits(0, 1, 2));
            due.is("some, not all: " + set, y.change(PART, 1, 0, 0, set), 2);
            due.is("has them", y.has(2, 1), set);
            due.is("has the others", y.has(0, 1), 56 & ~set);
        }
    }

    private static void changeSame() {
        due.sentence("a did not come by PART or FALL (SAME)");
        PartedLand x = alike(4);
        due.is("land 0", x.change(SAME, 0, 0, 0, 0), NOT);
        change(x, PART, 0, 0, 0, 1);
        due.is("land 0, though others came", x.change(SAME, 0, 0, 0, 0), NOT);
        due.is("by part", x.change(SAME, 0, 1, 0, 0), 1);
        change(x, JOIN, 0, 1, 0, 0);
        due.is("behind a join", x.change(SAME, 0, 1, 0, 0), 1);
        change(x, FALL, 0, 1, 0, 1);
        due.is("the first of a fall", x.change(SAME, 0, 2, 0, 0), 2);
        due.is("the other of a fall", x.change(SAME, 0, 3, 0, 0), 3);
    }

    private static void changeNotLookedAt() {
        due.sentence("(OUTSIDE ahead. What does not matter of b and set is not looked at.)");
        for (int other : new int[] {NONE, 0, 1, 9, 10, 31, LOWEST, HIGHEST}) {
            PartedLand x = alike(4);
            due.is("part, b " + other, x.change(PART, 0, 0, other, 3), 1);
            due.is("fall, b " + other, x.change(FALL, 0, 0, other, 4), 2);
            due.is("same, b and set " + other, x.change(SAME, 0, 1, other, other), 1);
            due.is("join, set " + other, x.change(JOIN, 0, 1, 2, other), 1);
            due.is("joined", x.has(1, 0), 7);
            due.is("the rest", x.has(3, 0), 8);
        }
    }

    private static void landsByBits() {
        due.sentence("`int lands(int day)`: LANDS that are there on a DAY, by bits. OUTSIDE.");
        PartedLand x = full();
        due.is("first day", x.lands(0), bits(0));
        due.is("eight at once", x.lands(7), 255);
        due.is("the ninth and tenth", x.lands(9), bits(2, 3, 4, 5, 6, 7, 8, 9));
        due.is("last day", x.lands(999), bits(2, 3, 4, 5, 6, 7, 8));
        due.each("no day", NO_DAYS, x::lands, OUTSIDE);
    }

    private static void hasNothing() {
        due.sentence("GROUNDS of a LAND on a DAY, by bits (0: it is not there).");
        PartedLand x = alike(4);
        change(x, PART, 5, 0, 0, 3);
        change(x, JOIN, 9, 0, 1, 0);
        change(x, FALL, 12, 0, 0, 1);
        due.is("a day ahead of its coming", x.has(1, 4), 0);
        due.is("the day of its coming", x.has(1, 5), 3);
        due.is("a day ahead of its end", x.has(1, 8), 3);
        due.is("the day of its end", x.has(1, 9), 0);
        due.is("all, a day ahead of the fall", x.has(0, 11), 15);
        due.is("none, the day of the fall", x.has(0, 12), 0);
        due.is("none on day 0", x.has(3, 0), 0);
        due.is("the last day", x.has(3, 999), 14);
    }

    private static void hasOfNoLand() {
        due.sentence("UNKNOWN: it never came; OUTSIDE.");
        PartedLand x = alike(4);
        due.each("never came", noneOf(1), land -> x.has(land, 0), UNKNOWN);
        change(x, PART, 999, 0, 0, 1);
        due.is("came on the last day", x.has(1, 0), 0);
        due.each("never came", noneOf(2), land -> x.has(land, 999), UNKNOWN);
    }

    private static void whose() {
        due.sentence("`int whose(int ground, int day)`: Who has a GROUND on a DAY. UNKNOWN; OUTSIDE.");
        PartedLand x = full();
        int[] want = {8, 2, 2, 3, 4, 5, 6, 7};
        for (int ground = 0; ground < 8; ground++) {
            due.is("on the first day", x.whose(ground, 0), 0);
            due.is("on the last day, " + ground, x.whose(ground, 999), want[ground]);
        }
        due.is("the day ahead of the gift", x.whose(1, 11), 8);
        due.is("the tenth land's", x.whose(1, 9), 9);
        due.each("no ground", noneOf(8), g -> x.whose(g, 0), UNKNOWN);
    }

    private static void from() {
        due.sentence("Of a LAND: out of which it came (what 0; NONE), on which DAY (1). UNKNOWN; OUTSIDE.");
        PartedLand x = alike(4);
        due.is("land 0 came out of none", x.from(0, 0), NONE);
        change(x, PART, 0, 0, 0, 1);
        change(x, FALL, 999, 0, 0, 2);
        due.is("out of land 0", x.from(1, 0), 0);
        due.is("on the first day", x.from(1, 1), 0);
        due.is("the first of a fall", x.from(2, 0) * 1000 + x.from(2, 1), 999);
        due.is("the other of a fall", x.from(3, 0) * 1000 + x.from(3, 1), 999);
        due.each("no what", noneOf(2), what -> x.from(1, what), OUTSIDE);
        due.each("no what", noneOf(2), what -> x.from(0, what), OUTSIDE);
        due.each("no land", noneOf(4), land -> x.from(land, 0), UNKNOWN);
        due.each("no land", noneOf(4), land -> x.from(land, 1), UNKNOWN);
    }

    private static void heirNotCome() {
        due.sentence("HEIR of a LAND on a DAY; NONE: it had not come yet. UNKNOWN; OUTSIDE.");
        PartedLand x = alike(4);
        change(x, PART, 5, 0, 0, 1);
        change(x, PART, 999, 0, 0, 2);
        due.is("on day 0", x.heir(1, 0), NONE);
        due.is("a day ahead", x.heir(1, 4), NONE);
        due.is("on the day", x.heir(1, 5), 1);
        due.is("a day ahead of the last", x.heir(2, 998), NONE);
        due.is("on the last day", x.heir(2, 999), 2);
        due.each("no land", noneOf(3), land -> x.heir(land, 0), UNKNOWN);
        PartedLand y = alike(4);
        change(y, FALL, 5, 0, 0, 1);
        change(y, FALL, 5, 2, 0, 2);
        due.is("came and fell on one day", y.heir(2, 5), 4);
        due.is("a day ahead of both", y.heir(2, 4), NONE);
    }
}
