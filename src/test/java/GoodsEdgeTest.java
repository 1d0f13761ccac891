import java.util.stream.IntStream;

/** The boundaries of debts, THINGS and PENSIONERS: the document's Terms, part 3, and promises 19 to 24. */
public final class GoodsEdgeTest extends Edges {
    private static final String HEADS = "share heads", WORTH = "share worth", EQUAL = "share equal";

    public static void main(String[] args) {
        eightDebts();
        soMuch();
        debtorIsThere();
        groundThatItHas();
        eightThings();
        thingKinds();
        fromDayZeroOn();
        debtOfAGround();
        atPartCut();
        atPartAHasTheRest();
        atPartOfAllAhead();
        atFall();
        atJoin();
        atGiveAndSame();
        addsUp();
        debtsBehindChanges();
        abroadAtPart();
        abroadAtFall();
        abroadAtJoin();
        abroadOfAnotherLand();
        keyHeads();
        keyWorth();
        keyWorthOfAllZero();
        keyEqual();
        twelvePensioners();
        paidByTheHeir();
        paidByGround();
        paidByGroundAheadOfTheLandServed();
        debt();
        owes();
        thing();
        thingNotLookedAt();
        owns();
        served();
        paid();
        paidNone();
        due.end();
    }

    /** What LANDS 0, 1 .. owe of debt 0 on a DAY. */
    private static void owed(String what, PartedLand x, int day, int... want) {
        for (int land = 0; land < want.length; land++) due.is(what + ", land " + land, x.owes(0, land, day), want[land]);
    }

    /** How many LANDS 0, 1 .. have of THING 0 on a DAY. */
    private static void owned(String what, PartedLand x, int day, int... want) {
        for (int land = 0; land < want.length; land++) due.is(what + ", land " + land, x.owns(0, land, day), want[land]);
    }

    // ---- Terms, part 3

    private static void eightDebts() {
        due.sentence("DEBTS are 8 at most");
        PartedLand x = alike(4);
        for (int many = 0; many < 8; many++) {
            due.is("how many", x.count(7), many);
            due.each("none of them", noneOf(many), d -> x.owes(d, 0, 0), UNKNOWN);
            due.is("one more", x.debt(0, many + 1, many % 2 == 0 ? NONE : 3, 0), many);
            due.is("owed", x.owes(many, 0, 0), many + 1);
        }
        due.is("ninth", x.debt(0, 1, NONE, 0), FULL);
        due.is("ninth, of a ground", x.debt(0, 1, 3, 0), FULL);
        due.is("eight", x.count(7), 8);
        due.each("no ninth", noneOf(8), d -> x.owes(d, 0, 0), UNKNOWN);
        due.is("all together", x.burden(0, 0, 0), 100036);
    }

    private static void soMuch() {
        due.sentence("each of so much (1 .. 9999)");
        PartedLand x = alike(4);
        due.each("no sum", besides(1, 9999), sum -> x.debt(0, sum, NONE, 0), OUTSIDE);
        due.each("no sum of a ground", besides(1, 9999), sum -> x.debt(0, sum, 2, 0), OUTSIDE);
        due.is("none of these is one", x.count(7), 0);
        due.is("least", x.debt(0, 1, NONE, 0), 0);
        due.is("most", x.debt(0, 9999, NONE, 0), 1);
        due.is("least of a ground", x.debt(0, 1, 2, 0), 2);
        due.is("most of a ground", x.debt(0, 9999, 2, 0), 3);
        for (int debt = 0; debt < 4; debt++) due.is("owed", x.owes(debt, 0, 0), debt % 2 == 0 ? 1 : 9999);
    }

    private static void debtorIsThere() {
        due.sentence("made by a LAND on a DAY on which it is there");
        PartedLand x = alike(6);
        change(x, PART, 5, 0, 0, bits(0, 1));
        change(x, JOIN, 9, 0, 1, 0);
        change(x, FALL, 20, 0, 0, bits(0));
        due.is("a day ahead of its coming", x.debt(1, 1, NONE, 4), NOT);
        due.is("the day of its coming", x.debt(1, 1, NONE, 5), 0);
        due.is("a day ahead of its end", x.debt(1, 1, NONE, 8), 1);
        due.is("the day of its end", x.debt(1, 1, NONE, 9), NOT);
        due.is("the last day", x.debt(1, 1, NONE, 999), NOT);
        due.is("day 0", x.debt(0, 1, NONE, 0), 2);
        due.is("a day ahead of the fall", x.debt(0, 1, NONE, 19), 3);
        due.is("the day of the fall", x.debt(0, 1, NONE, 20), NOT);
        due.is("a day ahead, who came by it", x.debt(3, 1, NONE, 19), NOT);
        due.is("the day, who came by it", x.debt(3, 1, NONE, 20), 4);
    }

    private static void groundThatItHas() {
        due.sentence("of a GROUND that it has then, or of the whole LAND.");
        PartedLand x = alike(4);
        change(x, PART, 5, 0, 0, bits(3));
        due.is("a day ahead", x.debt(0, 1, 3, 4), 0);
        due.is("no more on that day", x.debt(0, 1, 3, 5), NOT);
        due.is("the new land on that day", x.debt(1, 1, 3, 5), 1);
        due.is("the new land a day ahead", x.debt(1, 1, 3, 4), NOT);
        due.is("another one's", x.debt(1, 1, 0, 5), NOT);
        due.is("of the whole land", x.debt(1, 1, NONE, 5), 2);
        PartedLand none = new PartedLand();
        due.each("no grounds at all", new int[] {0, 1, 7}, g -> none.debt(0, 1, g, 0), UNKNOWN);
        due.is("of a land without grounds", none.debt(0, 1, NONE, 0), 0);
    }

    private static void eightThings() {
        due.sentence("THINGS are 8 at most");
        PartedLand x = alike(4);
        for (int many = 0; many < 8; many++) {
            due.is("how many", x.count(8), many);
            due.each("none of them", noneOf(many), t -> x.owns(t, 0, 0), UNKNOWN);
            due.is("one more", x.thing(many % 3, many + 1, 3), many);
            due.is("owned", x.owns(many, 0, 0), many % 3 == MOVED ? many + 1 : 1);
        }
        for (int kind = FIXED; kind <= ABROAD; kind++) due.is("ninth", x.thing(kind, 1, 0), FULL);
        due.is("eight", x.count(8), 8);
        due.each("no ninth", noneOf(8), t -> x.owns(t, 0, 0), UNKNOWN);
    }

    private static void thingKinds() {
        due.sentence("KIND 0 FIXED on a GROUND, 1 MOVED: so many (1 .. 9999), 2 ABROAD: one;");
        PartedLand x = alike(4);
        due.each("no kind", noneOf(3), kind -> x.thing(kind, 1, 1), OUTSIDE);
        due.each("not so many", besides(1, 9999), many -> x.thing(MOVED, many, 1), OUTSIDE);
        due.each("no ground", noneOf(4), ground -> x.thing(FIXED, 1, ground), UNKNOWN);
        due.is("none of these is one", x.count(8), 0);
        due.is("least", x.thing(MOVED, 1, 1), 0);
        due.is("most", x.thing(MOVED, 9999, 1), 1);
        due.is("on the first ground", x.thing(FIXED, 5, 0), 2);
        due.is("on the last ground", x.thing(FIXED, 5, 3), 3);
        due.is("one abroad", x.thing(ABROAD, 5, 0), 4);
        int[] want = {1, 9999, 1, 1, 1};
        for (int thing = 0; thing < 5; thing++) due.is("thing " + thing, x.owns(thing, 0, 999), want[thing]);
    }

    private static void fromDayZeroOn() {
        due.sentence("of a LAND, from DAY 0 on of LAND 0 (of FIXED ones: who has the GROUND).");
        PartedLand x = alike(4);
        change(x, PART, 5, 0, 0, bits(0, 1, 2));
        thing(x, FIXED, 0, 0);
        thing(x, MOVED, 8, 0);
        thing(x, ABROAD, 0, 0);
        int[] want = {1, 8, 1};
        for (int thing = 0; thing < 3; thing++) {
            due.is("told behind a change, on day 0, " + thing, x.owns(thing, 0, 0), want[thing]);
            due.is("a day ahead of it, " + thing, x.owns(thing, 0, 4), want[thing]);
            due.is("land 1, a day ahead, " + thing, x.owns(thing, 1, 4), 0);
            due.is("on that day, " + thing, x.owns(thing, 1, 5), thing == MOVED ? 6 : 1);
            due.is("land 0 on that day, " + thing, x.owns(thing, 0, 5), thing == MOVED ? 2 : 0);
        }
        PartedLand y = alike(4);
        thing(y, MOVED, 8, 0);
        change(y, FALL, 0, 0, 0, bits(0));
        owned("fell on day 0", y, 0, 0, 2, 6);
    }

    private static void debtOfAGround() {
        due.sentence("A debt of a GROUND is owed by who has the GROUND.");
        PartedLand x = alike(4);
        debt(x, 0, 9999, 2, 3);
        change(x, PART, 5, 0, 0, bits(2));
        change(x, JOIN, 6, 0, 1, 0);
        change(x, FALL, 7, 0, 0, bits(0));
        change(x, GIVE, 8, 3, 2, bits(2));
        owed("a day ahead of it", x, 2, 0, 0, 0, 0);
        owed("on that day", x, 3, 9999, 0, 0, 0);
        owed("parted", x, 5, 0, 9999, 0, 0);
        owed("joined", x, 6, 9999, 0, 0, 0);
        owed("fell", x, 7, 0, 0, 0, 9999);
        owed("given", x, 8, 0, 0, 9999, 0);
        owed("last day", x, 999, 0, 0, 9999, 0);
    }

    private static void atPartCut() {
        due.sentence("the new LAND has as many as the KEY of its GROUNDS is of the KEY of all of a ahead, cut, a the rest;");
        int[][] cases = {{1, 1, 1, 0}, {2, 1, 1, 1}, {3, 1, 1, 1}, {1, 998, 1, 0}, {1, 1, 998, 0}, {1, 999, 1, 0},
            {998, 1, 998, 0}, {999, 1, 998, 1}, {1000, 1, 998, 1}, {1997, 1, 998, 1}, {1998, 1, 998, 2},
            {9999, 998, 1, 9988}, {9999, 999, 999, 4999}, {9999, 1, 999, 9}, {9999, 999, 1, 9989}};
        for (int[] c : cases) {
            PartedLand x = land(c[1], 0, c[2], 0);
            debt(x, 0, c[0], NONE, 0);
            change(x, PART, 1, 0, 0, bits(0));
            owed(c[0] + " by " + c[1] + " and " + c[2], x, 1, c[0] - c[3], c[3]);
            PartedLand y = land(c[1], 0, c[2], 0);
            thing(y, MOVED, c[0], 0);
            change(y, PART, 1, 0, 0, bits(0));
            owned(c[0] + " by " + c[1] + " and " + c[2], y, 1, c[0] - c[3], c[3]);
        }
        PartedLand z = land(999, 0, 999, 0, 999, 0, 999, 0, 999, 0, 999, 0, 999, 0, 999, 0);
        debt(z, 0, 9999, NONE, 0);
        change(z, PART, 1, 0, 0, 127);
        owed("the most heads and the greatest sum", z, 1, 1250, 8749);
    }

    private static void atPartAHasTheRest() {
        due.sentence("cut, a the rest;");
        PartedLand x = alike(8);
        debt(x, 0, 1, NONE, 0);
        for (int land = 1; land < 8; land++) change(x, PART, land, 0, 0, bits(land));
        for (int day = 0; day < 8; day++) owed("one is not divided, day " + day, x, day, 1, 0, 0, 0, 0, 0, 0, 0);
        PartedLand y = alike(8);
        debt(y, 0, 7, NONE, 0);
        change(y, PART, 1, 0, 0, 127);
        owed("cut at 6", y, 1, 1, 6);
        change(y, PART, 2, 1, 0, 63);
        owed("cut at 5", y, 2, 1, 1, 5);
    }

    private static void atPartOfAllAhead() {
        due.sentence("of the KEY of all of a ahead");
        PartedLand x = land(10, 1, 20, 2, 30, 3, 40, 4);
        debt(x, 0, 1000, NONE, 0);
        change(x, PART, 1, 0, 0, bits(3));
        change(x, PART, 1, 0, 0, bits(2));
        owed("one behind the other on a day", x, 1, 300, 400, 300);
        change(x, GIVE, 2, 0, 1, bits(1));
        change(x, PART, 2, 1, 0, bits(1));
        owed("20 of 20 and 40, given on that day", x, 2, 300, 267, 300, 133);
    }

    private static void atFall() {
        due.sentence("at FALL the first new one likewise, the other one the rest;");
        int[][] cases = {{1, 1, 1, 0}, {1, 999, 1, 0}, {2, 1, 1, 1}, {3, 1, 1, 1}, {9999, 1, 999, 9}, {9999, 999, 1, 9989}};
        for (int[] c : cases) {
            PartedLand x = land(c[1], 0, c[2], 0);
            debt(x, 0, c[0], NONE, 0);
            thing(x, MOVED, c[0], 0);
            change(x, FALL, 1, 0, 0, bits(0));
            owed(c[0] + " by " + c[1] + " and " + c[2], x, 1, 0, c[3], c[0] - c[3]);
            owned(c[0] + " by " + c[1] + " and " + c[2], x, 1, 0, c[3], c[0] - c[3]);
            owed("a day ahead", x, 0, c[0], 0, 0);
        }
        for (int other = 0; other < 3; other++) {
            PartedLand x = alike(4);
            debt(x, 0, 100, NONE, 0);
            thing(x, MOVED, 100, 0);
            change(x, PART, 1, 0, other, bits(0, 1, 2));
            change(x, FALL, 2, 1, other, bits(0));
            change(x, PART, 3, 3, other, bits(1));
            owed("not of land 0", x, 2, 25, 0, 25, 50);
            owed("part, not of land 0", x, 3, 25, 0, 25, 25, 25);
            owned("not of land 0", x, 2, 25, 0, 25, 50);
            owned("part, not of land 0", x, 3, 25, 0, 25, 25, 25);
        }
    }

    private static void atJoin() {
        due.sentence("at JOIN a has b's, too.");
        PartedLand x = alike(4);
        debt(x, 0, 9999, NONE, 0);
        thing(x, MOVED, 9999, 0);
        change(x, PART, 1, 0, 0, bits(0));
        change(x, PART, 2, 0, 0, bits(1));
        change(x, JOIN, 3, 1, 0, 0);
        change(x, JOIN, 4, 1, 2, 0);
        owed("parted", x, 2, 5000, 2499, 2500);
        owed("two of them", x, 3, 0, 7499, 2500);
        owed("all of them", x, 4, 0, 9999, 0);
        owned("two of them", x, 3, 0, 7499, 2500);
        owned("all of them", x, 4, 0, 9999, 0);
        PartedLand y = alike(4);
        change(y, PART, 1, 0, 0, bits(0));
        debt(y, 1, 7, NONE, 1);
        change(y, JOIN, 2, 0, 1, 0);
        owed("made by the one that is no more", y, 2, 7, 0);
    }

    private static void atGiveAndSame() {
        due.sentence("Of a whole LAND's, and of MOVED things: at PART of what a has");
        PartedLand x = alike(4);
        debt(x, 0, 100, NONE, 0);
        thing(x, MOVED, 100, 0);
        change(x, PART, 1, 0, 0, bits(0));
        change(x, GIVE, 2, 0, 1, bits(1, 2));
        change(x, SAME, 3, 1, 0, 0);
        for (int day = 1; day < 4; day++) {
            owed("give and same leave it, day " + day, x, day, 75, 25);
            owned("give and same leave it, day " + day, x, day, 75, 25);
        }
        change(x, PART, 4, 1, 0, bits(1));
        owed("by the grounds of now", x, 4, 75, 17, 8);
    }

    private static void addsUp() {
        due.sentence("debts and things shared in whole numbers that add up");
        for (String share : new String[] {HEADS, WORTH, EQUAL}) {
            for (int sum : new int[] {1, 2, 7, 97, 9999}) {
                PartedLand x = rules(land(7, 3, 11, 0, 13, 999, 1, 1, 999, 0, 5, 5, 3, 7, 2, 2), share);
                debt(x, 0, sum, NONE, 0);
                thing(x, MOVED, sum, 0);
                change(x, PART, 1, 0, 0, bits(0, 1, 2));
                change(x, FALL, 2, 0, 0, bits(3, 4));
                change(x, FALL, 3, 1, 0, bits(1));
                change(x, PART, 4, 5, 0, bits(0));
                change(x, JOIN, 5, 2, 4, 0);
                change(x, FALL, 6, 3, 0, bits(5));
                for (int day = 0; day < 8; day++) {
                    int owed = 0;
                    int owned = 0;
                    for (int land = 0; land < 9; land++) owed += x.owes(0, land, day);
                    for (int land = 0; land < 9; land++) owned += x.owns(0, land, day);
                    due.is(share + ", owed on day " + day, owed, sum);
                    due.is(share + ", owned on day " + day, owned, sum);
                }
            }
        }
    }

    private static void debtsBehindChanges() {
        due.sentence("(PACTS are signed, debts made, behind CHANGES of their DAY.)");
        PartedLand x = alike(4);
        change(x, PART, 5, 0, 0, bits(0, 1));
        debt(x, 0, 100, NONE, 5);
        debt(x, 0, 100, NONE, 4);
        debt(x, 1, 100, NONE, 5);
        owed("parted ahead of it on that day", x, 5, 100, 0);
        due.is("parted a day behind it", x.owes(1, 1, 5), 50);
        due.is("of who came on that day", x.owes(2, 1, 5), 100);
        due.is("of nobody ahead", x.owes(2, 1, 4) + x.owes(2, 0, 4), 0);
        change(x, PART, 6, 0, 0, bits(2));
        owed("parts a day behind it", x, 6, 50, 0, 50);
    }

    private static void abroadAtPart() {
        due.sentence("ABROAD: at PART the new LAND has it, if the KEY of its GROUNDS is more than that of those that are left;");
        int[][] cases = {{499, 500, 0}, {500, 500, 0}, {501, 500, 1}, {1, 999, 0}, {999, 1, 1}, {1, 1, 0}};
        for (int[] c : cases) {
            PartedLand x = land(c[0], 0, c[1], 0);
            thing(x, ABROAD, 0, 0);
            change(x, PART, 5, 0, 0, bits(0));
            owned(c[0] + " and " + c[1], x, 5, 1 - c[2], c[2]);
            owned("a day ahead", x, 4, 1, 0);
            PartedLand y = rules(land(1, c[0], 1, c[1]), WORTH);
            thing(y, ABROAD, 0, 0);
            change(y, PART, 5, 0, 0, bits(0));
            owned("worth " + c[0] + " and " + c[1], y, 5, 1 - c[2], c[2]);
        }
        PartedLand z = land(1, 0, 1, 0, 1, 0, 3, 0);
        thing(z, ABROAD, 0, 0);
        change(z, PART, 5, 0, 0, bits(0, 1, 2));
        owned("together as many", z, 5, 1, 0);
    }

    private static void abroadAtFall() {
        due.sentence("at FALL the first one, if its KEY is not less than that of the other one, else the other one; at JOIN a.");
        int[][] cases = {{499, 500, 2}, {500, 500, 1}, {501, 500, 1}, {1, 999, 2}, {999, 1, 1}, {1, 1, 1}};
        for (int[] c : cases) {
            PartedLand x = land(c[0], 0, c[1], 0);
            thing(x, ABROAD, 0, 0);
            change(x, FALL, 5, 0, 0, bits(0));
            owned(c[0] + " and " + c[1], x, 5, 0, 2 - c[2], c[2] - 1);
            PartedLand y = rules(land(1, c[0], 1, c[1]), WORTH);
            thing(y, ABROAD, 0, 0);
            change(y, FALL, 5, 0, 0, bits(0));
            owned("worth " + c[0] + " and " + c[1], y, 5, 0, 2 - c[2], c[2] - 1);
        }
    }

    private static void abroadAtJoin() {
        due.sentence("else the other one; at JOIN a.");
        PartedLand x = alike(5);
        thing(x, ABROAD, 0, 0);
        change(x, PART, 1, 0, 0, bits(0));
        change(x, PART, 2, 0, 0, bits(1));
        change(x, JOIN, 3, 1, 2, 0);
        owned("others joined", x, 3, 1, 0, 0);
        change(x, JOIN, 4, 1, 0, 0);
        owned("it joined", x, 4, 0, 1, 0);
        change(x, PART, 5, 1, 0, bits(0));
        change(x, JOIN, 6, 1, 3, 0);
        owned("it has another one's, too", x, 6, 0, 1, 0, 0);
        change(x, PART, 7, 1, 0, bits(0));
        change(x, GIVE, 7, 1, 4, bits(1, 2, 3));
        change(x, SAME, 7, 4, 0, 0);
        owned("give and same leave it", x, 7, 0, 1, 0, 0, 0);
        change(x, JOIN, 8, 4, 1, 0);
        owned("it joined", x, 8, 0, 0, 0, 0, 1);
    }

    private static void abroadOfAnotherLand() {
        due.sentence("ABROAD: at PART the new LAND has it");
        PartedLand x = alike(8);
        thing(x, ABROAD, 0, 0);
        change(x, PART, 1, 0, 0, bits(0, 1, 2, 3, 4));
        change(x, PART, 2, 0, 0, bits(5, 6));
        change(x, FALL, 3, 2, 0, bits(5));
        owned("others part and fall", x, 3, 0, 1, 0, 0, 0);
        change(x, PART, 4, 1, 0, bits(0, 1, 2));
        owned("the one that has it parts", x, 4, 0, 0, 0, 0, 0, 1);
        change(x, FALL, 5, 5, 0, bits(0));
        owned("the one that has it falls", x, 5, 0, 0, 0, 0, 0, 0, 0, 1);
        change(x, JOIN, 6, 0, 7, 0);
        owned("back to land 0", x, 6, 1, 0, 0, 0, 0, 0, 0, 0);
        owned("all days ahead stay", x, 4, 0, 0, 0, 0, 0, 1);
    }

    private static void keyHeads() {
        due.sentence("KEY by share: heads: HEADS of GROUNDS together;");
        PartedLand x = land(10, 999, 20, 1, 30, 1, 40, 999);
        debt(x, 0, 1000, NONE, 0);
        change(x, PART, 1, 0, 0, bits(0, 2));
        change(x, FALL, 2, 0, 0, bits(3));
        owed("10 and 30 of 100", x, 1, 600, 400);
        owed("40 of 60", x, 2, 0, 400, 400, 200);
        rules(x, "share equal;share heads");
        owed("heads by the last line", x, 2, 0, 400, 400, 200);
    }

    private static void keyWorth() {
        due.sentence("worth: their WORTH");
        PartedLand x = rules(land(999, 1, 1, 2, 1, 3, 999, 4), WORTH);
        debt(x, 0, 1000, NONE, 0);
        change(x, PART, 1, 0, 0, bits(0, 2));
        change(x, FALL, 2, 0, 0, bits(3));
        owed("1 and 3 of 10", x, 1, 600, 400);
        owed("4 of 6", x, 2, 0, 400, 400, 200);
        PartedLand y = rules(land(999, 0, 1, 1), WORTH);
        debt(y, 0, 9999, NONE, 0);
        thing(y, ABROAD, 0, 0);
        change(y, PART, 1, 0, 0, bits(0));
        owed("0 of 1", y, 1, 9999, 0);
        owned("0 of 1", y, 1, 1, 0);
        PartedLand z = rules(land(999, 0, 1, 1), WORTH);
        debt(z, 0, 9999, NONE, 0);
        thing(z, ABROAD, 0, 0);
        change(z, PART, 1, 0, 0, bits(1));
        owed("1 of 1", z, 1, 0, 9999);
        owned("1 of 1", z, 1, 0, 1);
    }

    private static void keyWorthOfAllZero() {
        due.sentence("(if that of all is 0: as equal)");
        for (int kind : new int[] {PART, FALL}) {
            PartedLand x = rules(land(999, 0, 1, 0, 5, 0), WORTH);
            debt(x, 0, 9, NONE, 0);
            thing(x, ABROAD, 0, 0);
            change(x, kind, 1, 0, 0, bits(1));
            owed("9, as equal", x, 1, kind == PART ? new int[] {5, 4} : new int[] {0, 4, 5});
            owned("abroad, as equal", x, 1, kind == PART ? new int[] {1, 0} : new int[] {0, 1, 0});
        }
        PartedLand y = rules(land(1, 0, 1, 0, 1, 0, 1, 1), WORTH);
        debt(y, 0, 9, NONE, 0);
        change(y, PART, 1, 0, 0, bits(0, 1));
        owed("of all is not 0, of these it is", y, 1, 9, 0);
        debt(y, 1, 9, NONE, 1);
        change(y, PART, 2, 1, 0, bits(0));
        due.is("of all of a it is 0, not of all grounds", y.owes(1, 2, 2), 4);
        change(y, PART, 3, 0, 0, bits(2));
        owed("of all of a it is 1", y, 3, 9, 0, 0, 0);
    }

    private static void keyEqual() {
        due.sentence("equal: 1 for each LAND (so at PART and FALL the first one that comes has half, cut)");
        int[][] halves = {{1, 0}, {2, 1}, {3, 1}, {9998, 4999}, {9999, 4999}};
        for (int[] h : halves) {
            for (int kind : new int[] {PART, FALL}) {
                PartedLand x = rules(land(999, 999, 1, 0), EQUAL);
                debt(x, 0, h[0], NONE, 0);
                thing(x, MOVED, h[0], 0);
                change(x, kind, 1, 0, 0, bits(1));
                int rest = h[0] - h[1];
                int[] want = kind == PART ? new int[] {rest, h[1]} : new int[] {0, h[1], rest};
                owed("half of " + h[0], x, 1, want);
                owned("half of " + h[0], x, 1, want);
            }
        }
        PartedLand y = rules(land(1, 0, 999, 999), EQUAL);
        thing(y, ABROAD, 0, 0);
        change(y, PART, 1, 0, 0, bits(1));
        owned("abroad: a, as 1 is not more than 1", y, 1, 1, 0);
        PartedLand z = rules(land(1, 0, 999, 999), EQUAL);
        thing(z, ABROAD, 0, 0);
        change(z, FALL, 1, 0, 0, bits(0));
        owned("abroad: the first one, as 1 is not less than 1", z, 1, 0, 1, 0);
    }

    private static void twelvePensioners() {
        due.sentence("PENSIONERS are 12 at most");
        PartedLand x = alike(8);
        for (int many = 0; many < 12; many++) {
            due.is("how many", x.count(9), many);
            due.each("none of them", noneOf(many), p -> x.paid(p, 0), UNKNOWN);
            due.is("one more", x.served(0, many % 8, 7 - many % 8), many);
            due.is("paid", x.paid(many, 0), 0);
        }
        due.is("thirteenth", x.served(0, 0, 0), FULL);
        due.is("twelve", x.count(9), 12);
        due.each("no thirteenth", noneOf(12), p -> x.paid(p, 0), UNKNOWN);
        change(x, PART, 1, 0, 0, bits(3));
        rules(x, "pay born");
        for (int p = 0; p < 12; p++) due.is("born, " + p, x.paid(p, 1), p % 8 == 3 ? 1 : 0);
        rules(x, "pay lives");
        for (int p = 0; p < 12; p++) due.is("lives, " + p, x.paid(p, 1), p % 8 == 4 ? 1 : 0);
    }

    private static void paidByTheHeir() {
        due.sentence("PAID by the HEIR of whom they served");
        PartedLand x = land(3, 0, 4, 0, 1, 0);
        x.served(0, 2, 2);
        change(x, FALL, 5, 0, 0, bits(1));
        change(x, JOIN, 9, 2, 1, 0);
        due.is("itself, a day ahead", x.paid(0, 4), 0);
        due.is("of like heads the first", x.paid(0, 5), 1);
        due.is("a day ahead of the join", x.paid(0, 8), 1);
        due.is("the other one of the join", x.paid(0, 9), 2);
        due.is("on the last day", x.paid(0, 999), 2);
    }

    private static void paidByGround() {
        due.sentence("or by who has where they live, or where they were born, by pay.");
        PartedLand x = alike(4);
        x.served(0, 0, 3);
        change(x, PART, 5, 0, 0, bits(0));
        change(x, PART, 6, 0, 0, bits(3));
        int[] served = {0, 0, 0};
        int[] lives = {0, 0, 2};
        int[] born = {0, 1, 1};
        for (int day = 4; day < 7; day++) {
            due.is("served, day " + day, rules(x, "pay served").paid(0, day), served[day - 4]);
            due.is("lives, day " + day, rules(x, "pay lives").paid(0, day), lives[day - 4]);
            due.is("born, day " + day, rules(x, "pay born").paid(0, day), born[day - 4]);
            due.is("without a line, day " + day, rules(x, "follow").paid(0, day), served[day - 4]);
        }
    }

    /** Who has a ground does not hang on whom the pensioner served: NONE is told of the heir alone. */
    private static void paidByGroundAheadOfTheLandServed() {
        due.sentence("or by who has where they live, or where they were born, by pay.");
        PartedLand x = alike(4);
        change(x, PART, 5, 0, 0, bits(0));
        change(x, PART, 6, 0, 0, bits(3));
        x.served(2, 0, 3);
        int[] served = {NONE, NONE, 2};
        int[] lives = {0, 0, 2};
        int[] born = {0, 1, 1};
        for (int day = 4; day < 7; day++) {
            due.is("served, day " + day, rules(x, "pay served").paid(0, day), served[day - 4]);
            due.is("lives, day " + day, rules(x, "pay lives").paid(0, day), lives[day - 4]);
            due.is("born, day " + day, rules(x, "pay born").paid(0, day), born[day - 4]);
        }
    }

    // ---- promises 19 to 24

    private static void debt() {
        due.sentence("A debt of a LAND on a DAY, of a GROUND, or of the whole LAND (NONE): its number. UNKNOWN: LAND, GROUND; "
            + "OUTSIDE: the sum, DAY;");
        PartedLand x = alike(4);
        change(x, PART, 5, 0, 0, bits(0));
        due.each("no land", noneOf(2), land -> x.debt(land, 1, NONE, 0), UNKNOWN);
        int[] grounds = IntStream.of(noneOf(4)).filter(g -> g != NONE).toArray();
        due.each("no ground", grounds, ground -> x.debt(0, 1, ground, 0), UNKNOWN);
        due.each("no day", NO_DAYS, day -> x.debt(0, 1, NONE, day), OUTSIDE);
        due.each("no day, of a ground", NO_DAYS, day -> x.debt(0, 1, 1, day), OUTSIDE);
        due.is("none of these is one", x.count(7), 0);
        due.is("of the whole land", x.debt(0, 1, NONE, 0), 0);
        due.is("of ground 0", x.debt(0, 1, 0, 0), 1);
        due.is("of ground 3", x.debt(0, 1, 3, 999), 2);
        due.is("of land 1", x.debt(1, 1, NONE, 999), 3);
    }

    private static void owes() {
        due.sentence("What a LAND owes of a debt on a DAY (0 ahead of it). UNKNOWN; OUTSIDE.");
        PartedLand x = alike(4);
        due.is("no debts", x.owes(0, 0, 0), UNKNOWN);
        debt(x, 0, 100, NONE, 500);
        debt(x, 0, 200, 1, 500);
        change(x, PART, 501, 0, 0, bits(0, 1));
        for (int debt = 0; debt < 2; debt++) {
            due.is("on day 0", x.owes(debt, 0, 0), 0);
            due.is("a day ahead of it", x.owes(debt, 0, 499), 0);
            due.is("on it", x.owes(debt, 0, 500), 100 + 100 * debt);
            due.is("who had not come yet", x.owes(debt, 1, 500), 0);
            due.is("who has come", x.owes(debt, 1, 501), 50 + 150 * debt);
            due.is("on the last day", x.owes(debt, 0, 999), 50 - 50 * debt);
        }
        change(x, JOIN, 502, 0, 1, 0);
        due.is("who is no more", x.owes(0, 1, 502) + x.owes(1, 1, 502), 0);
        due.each("no debt", noneOf(2), d -> x.owes(d, 0, 0), UNKNOWN);
        due.each("no land", noneOf(2), land -> x.owes(0, land, 0), UNKNOWN);
        due.each("no day", NO_DAYS, day -> x.owes(0, 0, day), OUTSIDE);
    }

    private static void thing() {
        due.sentence("A thing: KIND, how many (MOVED), a GROUND (FIXED): its number. OUTSIDE: KIND, how many; "
            + "UNKNOWN: GROUND; FULL.");
        PartedLand x = new PartedLand();
        due.each("no grounds", new int[] {NONE, 0, 1, 7, 8}, ground -> x.thing(FIXED, 1, ground), UNKNOWN);
        due.is("moved, without grounds", x.thing(MOVED, 1, 0), 0);
        due.is("abroad, without grounds", x.thing(ABROAD, 1, 0), 1);
        x.ground(1, 1);
        due.is("on the only ground", x.thing(FIXED, 1, 0), 2);
        due.each("no ground", noneOf(1), ground -> x.thing(FIXED, 1, ground), UNKNOWN);
        due.is("three", x.count(8), 3);
    }

    private static void thingNotLookedAt() {
        due.sentence("(OUTSIDE ahead. What does not matter is not looked at.)");
        for (int other : new int[] {NONE, 0, 1, 4, 9999, 10000, 65536, LOWEST, HIGHEST}) {
            PartedLand x = alike(4);
            due.is("how many of a fixed one: " + other, x.thing(FIXED, other, 3), 0);
            due.is("ground of a moved one: " + other, x.thing(MOVED, 7, other), 1);
            due.is("both of one abroad: " + other, x.thing(ABROAD, other, other), 2);
            int[] want = {1, 7, 1};
            for (int thing = 0; thing < 3; thing++) due.is("has", x.owns(thing, 0, 0), want[thing]);
            due.is("counts", x.burden(0, 0, 0), 100000 - 7 - 1);
        }
    }

    private static void owns() {
        due.sentence("How many of a thing a LAND has on a DAY (FIXED, ABROAD: 1, 0). UNKNOWN; OUTSIDE.");
        PartedLand x = alike(4);
        due.is("no things", x.owns(0, 0, 0), UNKNOWN);
        thing(x, FIXED, 9999, 1);
        thing(x, ABROAD, 9999, 1);
        thing(x, MOVED, 9999, 1);
        change(x, PART, 500, 0, 0, bits(1, 2, 3));
        change(x, JOIN, 999, 0, 1, 0);
        int[][] want = {{1, 0, 0, 1, 1, 0}, {1, 0, 0, 1, 1, 0}, {9999, 0, 2500, 7499, 9999, 0}};
        int[] days = {499, 500, 999};
        for (int thing = 0; thing < 3; thing++) {
            due.is("on day 0", x.owns(thing, 0, 0), want[thing][0]);
            for (int i = 0; i < 6; i++) due.is("thing " + thing, x.owns(thing, i % 2, days[i / 2]), want[thing][i]);
        }
        due.each("no thing", noneOf(3), t -> x.owns(t, 0, 0), UNKNOWN);
        due.each("no land", noneOf(2), land -> x.owns(0, land, 0), UNKNOWN);
        due.each("no day", NO_DAYS, day -> x.owns(0, 0, day), OUTSIDE);
    }

    private static void served() {
        due.sentence("A PENSIONER: its number. UNKNOWN; FULL.");
        PartedLand x = alike(4);
        due.each("no land", noneOf(1), land -> x.served(land, 0, 0), UNKNOWN);
        due.each("born on no ground", noneOf(4), ground -> x.served(0, ground, 0), UNKNOWN);
        due.each("lives on no ground", noneOf(4), ground -> x.served(0, 0, ground), UNKNOWN);
        change(x, PART, 999, 0, 0, bits(3));
        due.each("no land", noneOf(2), land -> x.served(land, 0, 0), UNKNOWN);
        due.is("none of these is one", x.count(9), 0);
        due.is("of the land that came last", x.served(1, 3, 0), 0);
        due.is("of the first land", x.served(0, 0, 3), 1);
        due.is("none without grounds", new PartedLand().served(0, 0, 0), UNKNOWN);
    }

    private static void paid() {
        due.sentence("By whom a PENSIONER is PAID on a DAY; NONE: the LAND had not come yet. UNKNOWN; OUTSIDE.");
        PartedLand x = alike(4);
        due.is("no pensioners", x.paid(0, 0), UNKNOWN);
        x.served(0, 0, 0);
        due.each("no pensioner", noneOf(1), p -> x.paid(p, 0), UNKNOWN);
        for (String pay : new String[] {"pay served", "pay lives", "pay born"}) {
            rules(x, pay);
            due.each("no day, " + pay, NO_DAYS, day -> x.paid(0, day), OUTSIDE);
            due.is("the first day, " + pay, x.paid(0, 0), 0);
            due.is("the last day, " + pay, x.paid(0, 999), 0);
        }
    }

    private static void paidNone() {
        due.sentence("NONE: the LAND had not come yet.");
        PartedLand x = alike(4);
        change(x, PART, 5, 0, 0, bits(0));
        change(x, FALL, 999, 0, 0, bits(1));
        for (int land = 0; land < 4; land++) x.served(land, 0, 0);
        due.is("land 0 is there from the beginning", x.paid(0, 0), 0);
        due.is("on day 0", x.paid(1, 0), NONE);
        due.is("a day ahead", x.paid(1, 4), NONE);
        due.is("on the day", x.paid(1, 5), 1);
        due.is("a day ahead of the last", x.paid(2, 998) + x.paid(3, 998), 2 * NONE);
        due.is("on the last day", x.paid(2, 999) * 10 + x.paid(3, 999), 23);
    }
}
