import java.util.ArrayList;
import java.util.Arrays;
import java.util.List;
import java.util.function.Consumer;
import java.util.function.ToIntFunction;

/**
 * For each call what it refuses, each refusal alone and each two that fit at once: the first one is answered, and behind
 * it every answer is as it was.
 */
public final class RefusedTest extends Edges {
    public static void main(String[] args) {
        everyOneIsTaken();
        ground();
        groundTwo();
        changeOutside();
        changeUnknown();
        changeNot();
        changeFull();
        asked();
        write();
        rules();
        pact();
        pactTwo();
        word();
        voice();
        debt();
        debtTwo();
        thing();
        served();
        askedOfPacts();
        askedOfGoods();
        askedOfHangs();
        noDays();
        questionsChangeNothing();
        due.end();
    }

    private static final int[] DAYS = {0, 9, 10, 12, 13, 14, 15, 16, 20, 23, 999};

    /** Some of everything, with room for more; the next change may be on day 21. */
    private static void some(PartedLand x) {
        x.ground(30, 5);
        x.ground(20, 10);
        x.ground(50, 0);
        x.ground(10, 85);
        x.ground(7, 0);
        x.pact(OF_TRADE, 0, 0, 0, 0);
        x.pact(OF_RANK, 0, 1, 0, 1);
        x.pact(OF_GROUND, 0, 2, 2, 2);
        x.debt(0, 1000, NONE, 1);
        x.debt(0, 77, 1, 2);
        x.thing(FIXED, 0, 3);
        x.thing(MOVED, 101, 0);
        x.thing(ABROAD, 0, 0);
        x.change(PART, 10, 0, 0, bits(1, 2));
        x.change(FALL, 12, 0, 0, bits(0));
        x.change(GIVE, 12, 1, 2, bits(1));
        x.change(SAME, 13, 1, 0, 0);
        x.change(JOIN, 14, 3, 2, 0);
        x.word(0, 1, false, false, 11);
        x.word(0, 1, false, true, 13);
        x.word(0, 3, false, false, 15);
        x.word(0, 3, true, true, 16);
        x.word(0, 3, false, true, 16);
        x.voice(0, 1, true, 13);
        x.voice(1, 1, false, 14);
        x.voice(1, 1, true, 15);
        x.debt(1, 500, NONE, 15);
        x.pact(OF_TRADE, 3, 5, 0, 20);
        x.served(0, 1, 2);
        x.served(2, 0, 4);
        text(x, "clean;within 5;silence yes;share worth;pay lives");
        x.rules();
        text(x, "pay born; x");
    }

    private static void some(String name, ToIntFunction<PartedLand> call, int want) {
        new Twins(due, RefusedTest::some, DAYS).sameBehind(name, call, want);
    }

    private static void full(String name, ToIntFunction<PartedLand> call, int want) {
        Twins twins = new Twins(due, Edges::tellFull, 0, 5, 9, 11, 12, 20, 999);
        twins.sameBehind(name, call, want);
    }

    private static void everyOneIsTaken() {
        due.sentence("Refused, and nothing changes");
        PartedLand x = new PartedLand();
        some(x);
        int[] want = {5, 4, 5, 11, 4, 5, 3, 3, 3, 2};
        for (int what = 0; what < 10; what++) due.is("count of some, " + what, x.count(what), want[what]);
        full();
        due.is("twins can be told of the first days", x.change(SAME, 21, 1, 0, 0), 1);
        due.is("twins can be told of the first days", x.change(PART, 22, 3, 0, 1), 4);
        due.is("twins can be told more", x.pact(OF_TRADE, 3, 0, 0, 22), 4);
        due.is("twins can be told more", x.debt(3, 9, NONE, 23), 3);
    }

    // ---- grounds, changes

    private static void ground() {
        due.sentence("A GROUND more of LAND 0: its number. OUTSIDE; NOT: a CHANGE was told; FULL.");
        some("NOT", x -> x.ground(1, 1), NOT);
        some("OUTSIDE, NOT", x -> x.ground(0, 1), OUTSIDE);
        some("OUTSIDE, NOT", x -> x.ground(1, 1000), OUTSIDE);
        full("NOT, FULL", x -> x.ground(1, 1), NOT);
        full("OUTSIDE, NOT, FULL", x -> x.ground(1000, 1), OUTSIDE);
        full("OUTSIDE, NOT, FULL", x -> x.ground(1, -1), OUTSIDE);
    }

    private static void groundTwo() {
        due.sentence("OUTSIDE; NOT: a CHANGE was told; FULL.");
        Twins eight = new Twins(due, x -> {
            for (int i = 0; i < 8; i++) x.ground(i + 1, i);
        }, 0, 999);
        eight.sameBehind("FULL", x -> x.ground(1, 1), FULL);
        eight.sameBehind("OUTSIDE, FULL", x -> x.ground(0, 1), OUTSIDE);
        eight.sameBehind("OUTSIDE, FULL", x -> x.ground(1, 1000), OUTSIDE);
        Twins seven = new Twins(due, x -> {
            for (int i = 0; i < 7; i++) x.ground(i + 1, i);
        }, 0, 22, 999);
        seven.sameBehind("OUTSIDE", x -> x.ground(0, 0), OUTSIDE);
        seven.sameBehind("OUTSIDE", x -> x.ground(1000, 0), OUTSIDE);
        seven.sameBehind("OUTSIDE", x -> x.ground(1, -1), OUTSIDE);
        seven.sameBehind("OUTSIDE", x -> x.ground(1, 1000), OUTSIDE);
    }

    private static void changeOutside() {
        due.sentence("OUTSIDE: kind, DAY (0 .. 999; below that of the latest CHANGE, or not above that of each PACT and debt)");
        some("kind", x -> x.change(5, 21, 1, 0, bits(2)), OUTSIDE);
        some("kind", x -> x.change(-1, 21, 1, 0, bits(2)), OUTSIDE);
        some("DAY", x -> x.change(SAME, 1000, 1, 0, 0), OUTSIDE);
        some("DAY", x -> x.change(SAME, -1, 1, 0, 0), OUTSIDE);
        some("below the latest change", x -> x.change(SAME, 13, 1, 0, 0), OUTSIDE);
        some("on the day of the latest change", x -> x.change(SAME, 14, 1, 0, 0), OUTSIDE);
        some("on the day of the latest debt", x -> x.change(SAME, 15, 1, 0, 0), OUTSIDE);
        some("on the day of the latest pact", x -> x.change(SAME, 20, 1, 0, 0), OUTSIDE);
        some("OUTSIDE, UNKNOWN", x -> x.change(SAME, 20, 9, 0, 0), OUTSIDE);
        some("OUTSIDE, UNKNOWN", x -> x.change(5, 21, 9, 9, 0), OUTSIDE);
        some("OUTSIDE, UNKNOWN of b", x -> x.change(JOIN, 1000, 1, 0, 0), OUTSIDE);
        some("OUTSIDE, NOT: one land", x -> x.change(JOIN, 20, 1, 1, 0), OUTSIDE);
        some("OUTSIDE, NOT: set", x -> x.change(PART, 20, 3, 1, 0), OUTSIDE);
        full("OUTSIDE, FULL", x -> x.change(SAME, 11, 8, 0, 0), OUTSIDE);
        full("OUTSIDE, FULL", x -> x.change(5, 12, 8, 0, 0), OUTSIDE);
        full("OUTSIDE, UNKNOWN, FULL", x -> x.change(SAME, 11, 0, 0, 0), OUTSIDE);
        full("OUTSIDE, NOT, FULL", x -> x.change(PART, 11, 2, 0, 0), OUTSIDE);
        full("all four", x -> x.change(JOIN, 11, 0, 0, 0), OUTSIDE);
    }

    private static void changeUnknown() {
        due.sentence("UNKNOWN: a, or b (JOIN, GIVE), is not there then");
        for (int kind = PART; kind <= SAME; kind++) {
            int k = kind;
            some("a never came, " + k, x -> x.change(k, 21, 4, 3, bits(2)), UNKNOWN);
            some("a is no more, " + k, x -> x.change(k, 21, 0, 3, bits(2)), UNKNOWN);
        }
        for (int kind : new int[] {JOIN, GIVE}) {
            some("b never came, " + kind, x -> x.change(kind, 21, 3, 4, bits(0)), UNKNOWN);
            some("b is no more, " + kind, x -> x.change(kind, 21, 3, 2, bits(0)), UNKNOWN);
            some("UNKNOWN, NOT: one land, " + kind, x -> x.change(kind, 21, 2, 2, bits(0)), UNKNOWN);
            full("UNKNOWN of b, FULL, " + kind, x -> x.change(kind, 12, 2, 0, bits(1)), UNKNOWN);
        }
        some("UNKNOWN, NOT: set", x -> x.change(PART, 21, 0, 0, 0), UNKNOWN);
        some("UNKNOWN, NOT: set", x -> x.change(GIVE, 21, 3, 2, 0), UNKNOWN);
        some("UNKNOWN, NOT: same of land 0", x -> x.change(SAME, 21, 0, 0, 0), UNKNOWN);
        full("UNKNOWN, FULL", x -> x.change(SAME, 12, 9, 0, 0), UNKNOWN);
        full("UNKNOWN, NOT, FULL", x -> x.change(FALL, 12, 1, 1, 0), UNKNOWN);
    }

    private static void changeNot() {
        due.sentence("NOT: a and b are one; set is not some of a's GROUNDS, but not all (PART, FALL, GIVE); "
            + "a did not come by PART or FALL (SAME); FULL: 12, or more than 10 LANDS.");
        some("one land, join", x -> x.change(JOIN, 21, 3, 3, 0), NOT);
        some("one land, give", x -> x.change(GIVE, 21, 3, 3, bits(0)), NOT);
        for (int kind : new int[] {PART, FALL, GIVE}) {
            some("no ground, " + kind, x -> x.change(kind, 21, 3, 1, 0), NOT);
            some("all grounds, " + kind, x -> x.change(kind, 21, 3, 1, bits(0, 1, 3, 4)), NOT);
            some("another one's, " + kind, x -> x.change(kind, 21, 3, 1, bits(2)), NOT);
            some("its and another one's, " + kind, x -> x.change(kind, 21, 3, 1, bits(0, 2)), NOT);
            some("no such ground, " + kind, x -> x.change(kind, 21, 3, 1, bits(0, 5)), NOT);
            some("its only one, " + kind, x -> x.change(kind, 21, 1, 3, bits(2)), NOT);
            full("NOT, FULL, " + kind, x -> x.change(kind, 12, 2, 3, bits(1, 2)), NOT);
        }
        full("one land, FULL", x -> x.change(JOIN, 12, 2, 2, 0), NOT);
        Twins whole = new Twins(due, x -> x.ground(1, x.ground(1, 1)), 0, 22, 999);
        whole.sameBehind("same of land 0", x -> x.change(SAME, 0, 0, 0, 0), NOT);
    }

    /** Twelve changes, and land 0, which did not come, is there. */
    private static void changeFull() {
        due.sentence("FULL: 12, or more than 10 LANDS.");
        full("twelve, part", x -> x.change(PART, 12, 2, 0, bits(1)), FULL);
        full("twelve, fall", x -> x.change(FALL, 12, 2, 0, bits(1)), FULL);
        full("twelve, join", x -> x.change(JOIN, 12, 2, 3, 0), FULL);
        full("twelve, give", x -> x.change(GIVE, 12, 2, 3, bits(1)), FULL);
        full("twelve, same", x -> x.change(SAME, 999, 2, 0, 0), FULL);
        Twins twelve = new Twins(due, x -> {
            for (int i = 0; i < 4; i++) x.ground(1, 1);
            x.change(PART, 0, 0, 0, 3);
            for (int i = 1; i < 12; i++) x.change(SAME, i, 1, 0, 0);
        }, 0, 11, 12, 999);
        twelve.sameBehind("NOT, FULL: same of land 0", x -> x.change(SAME, 11, 0, 0, 0), NOT);
        twelve.sameBehind("FULL", x -> x.change(PART, 11, 0, 0, bits(2)), FULL);
        Twins tenLands = new Twins(due, x -> {
            for (int i = 0; i < 8; i++) x.ground(1, 1);
            for (int i = 1; i < 8; i++) x.change(PART, i, 0, 0, 1 << i);
            x.change(JOIN, 8, 0, 1, 0);
            x.change(PART, 8, 0, 0, bits(1));
            x.change(JOIN, 9, 0, 2, 0);
        }, 0, 8, 9, 10, 22, 999);
        tenLands.sameBehind("nine lands, fall", x -> x.change(FALL, 10, 0, 0, bits(0)), FULL);
        tenLands.sameBehind("NOT, FULL", x -> x.change(FALL, 10, 0, 0, bits(0, 2)), NOT);
        tenLands.sameBehind("OUTSIDE, FULL", x -> x.change(FALL, 8, 0, 0, bits(0)), OUTSIDE);
        tenLands.sameBehind("UNKNOWN, FULL", x -> x.change(FALL, 10, 1, 0, bits(0)), UNKNOWN);
    }

    private static void asked() {
        due.sentence("UNKNOWN: it never came; OUTSIDE.");
        some("lands", x -> x.lands(1000), OUTSIDE);
        some("has", x -> x.has(4, 0), UNKNOWN);
        some("has", x -> x.has(0, -1), OUTSIDE);
        some("has, UNKNOWN, OUTSIDE", x -> x.has(-1, -1), UNKNOWN);
        some("whose", x -> x.whose(5, 0), UNKNOWN);
        some("whose", x -> x.whose(0, 1000), OUTSIDE);
        some("whose, UNKNOWN, OUTSIDE", x -> x.whose(5, 1000), UNKNOWN);
        some("from", x -> x.from(4, 0), UNKNOWN);
        some("from", x -> x.from(0, 2), OUTSIDE);
        some("from, UNKNOWN, OUTSIDE", x -> x.from(4, 2), UNKNOWN);
        some("heir", x -> x.heir(4, 0), UNKNOWN);
        some("heir", x -> x.heir(0, 1000), OUTSIDE);
        some("heir, UNKNOWN, OUTSIDE", x -> x.heir(4, 1000), UNKNOWN);
        some("rule", x -> x.rule(5), OUTSIDE);
        some("count", x -> x.count(10), OUTSIDE);
    }

    // ---- rules

    private static void write() {
        due.sentence("how many it has. OUTSIDE; FULL.");
        some("no bytes", x -> x.write('x', 0), OUTSIDE);
        some("nine bytes", x -> x.write('x', 9), OUTSIDE);
        full("FULL", x -> x.write('x', 1), FULL);
        full("FULL", x -> x.write('x', 8), FULL);
        full("OUTSIDE, FULL", x -> x.write('x', 0), OUTSIDE);
        full("OUTSIDE, FULL", x -> x.write('x', 9), OUTSIDE);
        Twins nearly = new Twins(due, x -> text(x, "clean" + " ".repeat(152)), 0);
        nearly.sameBehind("FULL by one", x -> x.write(0x7878787878787878L, 4), FULL);
        nearly.sameBehind("OUTSIDE, FULL", x -> x.write(0x7878787878787878L, 9), OUTSIDE);
    }

    private static void rules() {
        due.sentence("NOT: it has a FAULT.");
        some("NOT", PartedLand::rules, NOT);
        new Twins(due, x -> { }, 0).sameBehind("NOT: empty", PartedLand::rules, NOT);
        Twins late = new Twins(due, x -> text(x, "clean;silence yes;within 5;share equal;pay"), 0);
        late.sameBehind("NOT: too soon at its end", PartedLand::rules, NOT);
        Twins faulty = new Twins(due, x -> {
            text(x, "share worth;pay lives");
            x.rules();
            text(x, "clean;silence yes;within 5;share equal;pay born;");
        }, 0);
        faulty.sameBehind("NOT", PartedLand::rules, NOT);
    }

    // ---- pacts

    private static void pact() {
        due.sentence("UNKNOWN: LAND, THIRD, GROUND (of KIND 0); OUTSIDE: KIND, DAY; NOT: the LAND is not there on that DAY, "
            + "or has not that GROUND; FULL.");
        some("LAND", x -> x.pact(OF_TRADE, 4, 0, 0, 30), UNKNOWN);
        some("THIRD", x -> x.pact(OF_TRADE, 3, 6, 0, 30), UNKNOWN);
        some("GROUND", x -> x.pact(OF_GROUND, 3, 0, 5, 30), UNKNOWN);
        some("KIND", x -> x.pact(3, 3, 0, 0, 30), OUTSIDE);
        some("DAY", x -> x.pact(OF_TRADE, 3, 0, 0, 1000), OUTSIDE);
        some("DAY", x -> x.pact(OF_TRADE, 3, 0, 0, -1), OUTSIDE);
        some("not there", x -> x.pact(OF_TRADE, 0, 0, 0, 30), NOT);
        some("not there yet", x -> x.pact(OF_TRADE, 3, 0, 0, 11), NOT);
        some("has it not", x -> x.pact(OF_GROUND, 3, 0, 2, 30), NOT);
        full("FULL", x -> x.pact(OF_TRADE, 8, 0, 0, 30), FULL);
        full("FULL, of a ground", x -> x.pact(OF_GROUND, 8, 0, 0, 30), FULL);
    }

    private static void pactTwo() {
        due.sentence("OUTSIDE: KIND, DAY; NOT: the LAND is not there on that DAY, or has not that GROUND; FULL.");
        some("LAND, KIND", x -> x.pact(3, 4, 0, 0, 30), UNKNOWN);
        some("LAND, DAY", x -> x.pact(OF_TRADE, 4, 0, 0, 1000), UNKNOWN);
        some("THIRD, KIND", x -> x.pact(-1, 3, -1, 0, 30), UNKNOWN);
        some("THIRD, DAY", x -> x.pact(OF_TRADE, 3, 6, 0, -1), UNKNOWN);
        some("GROUND, DAY", x -> x.pact(OF_GROUND, 3, 0, -1, 1000), UNKNOWN);
        some("THIRD, not there", x -> x.pact(OF_TRADE, 0, 6, 0, 30), UNKNOWN);
        some("GROUND, not there", x -> x.pact(OF_GROUND, 0, 0, 5, 30), UNKNOWN);
        some("KIND, ground not looked at", x -> x.pact(3, 3, 0, 5, 30), OUTSIDE);
        some("KIND, not there", x -> x.pact(3, 0, 0, 0, 30), OUTSIDE);
        some("DAY, not there", x -> x.pact(OF_RANK, 2, 0, 0, 1000), OUTSIDE);
        some("DAY, has it not", x -> x.pact(OF_GROUND, 3, 0, 2, 1000), OUTSIDE);
        full("LAND, FULL", x -> x.pact(OF_TRADE, 10, 0, 0, 30), UNKNOWN);
        full("THIRD, FULL", x -> x.pact(OF_TRADE, 8, 6, 0, 30), UNKNOWN);
        full("GROUND, FULL", x -> x.pact(OF_GROUND, 8, 0, 8, 30), UNKNOWN);
        full("KIND, FULL", x -> x.pact(3, 8, 0, 0, 30), OUTSIDE);
        full("DAY, FULL", x -> x.pact(OF_TRADE, 8, 0, 0, 1000), OUTSIDE);
        full("not there, FULL", x -> x.pact(OF_TRADE, 0, 0, 0, 30), NOT);
        full("has it not, FULL", x -> x.pact(OF_GROUND, 8, 0, 7, 30), NOT);
        full("UNKNOWN, OUTSIDE, NOT, FULL", x -> x.pact(3, 0, 6, 0, 1000), UNKNOWN);
    }

    private static void word() {
        due.sentence("by it, or by the THIRD: how many. UNKNOWN; OUTSIDE: DAY; FULL.");
        for (boolean byThird : new boolean[] {true, false}) {
            some("PACT", x -> x.word(4, 3, byThird, false, 16), UNKNOWN);
            some("LAND", x -> x.word(0, 4, byThird, false, 16), UNKNOWN);
            some("DAY", x -> x.word(0, 3, byThird, false, 1000), OUTSIDE);
            some("PACT, DAY", x -> x.word(-1, 3, byThird, false, -1), UNKNOWN);
            some("LAND, DAY", x -> x.word(0, -1, byThird, false, 1000), UNKNOWN);
            full("FULL", x -> x.word(2, 3, byThird, false, 23), FULL);
            full("PACT, FULL", x -> x.word(12, 3, byThird, false, 23), UNKNOWN);
            full("LAND, FULL", x -> x.word(2, 10, byThird, false, 23), UNKNOWN);
            full("DAY, FULL", x -> x.word(2, 3, byThird, false, 1000), OUTSIDE);
            full("PACT, LAND, DAY, FULL", x -> x.word(12, 10, byThird, false, 1000), UNKNOWN);
        }
    }

    private static void voice() {
        due.sentence("A VOICE: how many. UNKNOWN: THIRD, LAND; OUTSIDE; FULL.");
        some("THIRD", x -> x.voice(6, 1, false, 15), UNKNOWN);
        some("LAND", x -> x.voice(0, 4, false, 15), UNKNOWN);
        some("DAY", x -> x.voice(0, 1, false, 1000), OUTSIDE);
        some("THIRD, DAY", x -> x.voice(-1, 1, false, -1), UNKNOWN);
        some("LAND, DAY", x -> x.voice(0, -1, false, 1000), UNKNOWN);
        full("FULL", x -> x.voice(0, 8, true, 11), FULL);
        full("THIRD, FULL", x -> x.voice(6, 8, true, 11), UNKNOWN);
        full("LAND, FULL", x -> x.voice(0, 10, true, 11), UNKNOWN);
        full("DAY, FULL", x -> x.voice(0, 8, true, -1), OUTSIDE);
        full("THIRD, LAND, DAY, FULL", x -> x.voice(6, 10, true, -1), UNKNOWN);
    }

    // ---- debts, things, pensions

    private static void debt() {
        due.sentence("UNKNOWN: LAND, GROUND; OUTSIDE: the sum, DAY; NOT: the LAND is not there, or has not that GROUND; FULL.");
        some("LAND", x -> x.debt(4, 5, NONE, 30), UNKNOWN);
        some("GROUND", x -> x.debt(3, 5, 5, 30), UNKNOWN);
        some("GROUND below NONE", x -> x.debt(3, 5, -2, 30), UNKNOWN);
        some("sum", x -> x.debt(3, 0, NONE, 30), OUTSIDE);
        some("sum", x -> x.debt(3, 10000, NONE, 30), OUTSIDE);
        some("DAY", x -> x.debt(3, 5, NONE, 1000), OUTSIDE);
        some("DAY", x -> x.debt(3, 5, NONE, -1), OUTSIDE);
        some("not there", x -> x.debt(0, 5, NONE, 30), NOT);
        some("not there yet", x -> x.debt(3, 5, NONE, 11), NOT);
        some("has it not", x -> x.debt(3, 5, 2, 30), NOT);
        full("FULL", x -> x.debt(8, 5, NONE, 30), FULL);
        full("FULL, of a ground", x -> x.debt(8, 5, 0, 30), FULL);
    }

    private static void debtTwo() {
        due.sentence("OUTSIDE: the sum, DAY; NOT: the LAND is not there, or has not that GROUND; FULL.");
        some("LAND, sum", x -> x.debt(4, 0, NONE, 30), UNKNOWN);
        some("LAND, DAY", x -> x.debt(-1, 5, NONE, 1000), UNKNOWN);
        some("GROUND, sum", x -> x.debt(3, 10000, 5, 30), UNKNOWN);
        some("GROUND, DAY", x -> x.debt(3, 5, 5, -1), UNKNOWN);
        some("GROUND, not there", x -> x.debt(0, 5, 5, 30), UNKNOWN);
        some("sum, not there", x -> x.debt(0, 0, NONE, 30), OUTSIDE);
        some("sum, has it not", x -> x.debt(3, 10000, 2, 30), OUTSIDE);
        some("DAY, not there", x -> x.debt(0, 5, NONE, 1000), OUTSIDE);
        some("DAY, has it not", x -> x.debt(3, 5, 2, 1000), OUTSIDE);
        full("LAND, FULL", x -> x.debt(10, 5, NONE, 30), UNKNOWN);
        full("GROUND, FULL", x -> x.debt(8, 5, 8, 30), UNKNOWN);
        full("sum, FULL", x -> x.debt(8, 10000, NONE, 30), OUTSIDE);
        full("DAY, FULL", x -> x.debt(8, 5, NONE, 1000), OUTSIDE);
        full("not there, FULL", x -> x.debt(0, 5, NONE, 30), NOT);
        full("has it not, FULL", x -> x.debt(8, 5, 7, 30), NOT);
        full("UNKNOWN, OUTSIDE, NOT, FULL", x -> x.debt(0, 0, 8, 1000), UNKNOWN);
    }

    private static void thing() {
        due.sentence("OUTSIDE: KIND, how many; UNKNOWN: GROUND; FULL. (OUTSIDE ahead. What does not matter is not looked at.)");
        some("KIND", x -> x.thing(3, 1, 0), OUTSIDE);
        some("KIND", x -> x.thing(-1, 1, 0), OUTSIDE);
        some("how many", x -> x.thing(MOVED, 0, 0), OUTSIDE);
        some("how many", x -> x.thing(MOVED, 10000, 0), OUTSIDE);
        some("GROUND", x -> x.thing(FIXED, 1, 5), UNKNOWN);
        some("KIND, how many, GROUND", x -> x.thing(3, 0, 5), OUTSIDE);
        some("how many, ground not looked at", x -> x.thing(MOVED, 0, 5), OUTSIDE);
        some("GROUND, how many not looked at", x -> x.thing(FIXED, 0, 5), UNKNOWN);
        full("FULL", x -> x.thing(FIXED, 1, 0), FULL);
        full("FULL", x -> x.thing(MOVED, 1, 0), FULL);
        full("FULL", x -> x.thing(ABROAD, 1, 0), FULL);
        full("KIND, FULL", x -> x.thing(3, 1, 0), OUTSIDE);
        full("how many, FULL", x -> x.thing(MOVED, 10000, 0), OUTSIDE);
        full("GROUND, FULL", x -> x.thing(FIXED, 1, 8), UNKNOWN);
    }

    private static void served() {
        due.sentence("A PENSIONER: its number. UNKNOWN; FULL.");
        some("LAND", x -> x.served(4, 0, 0), UNKNOWN);
        some("born", x -> x.served(0, 5, 0), UNKNOWN);
        some("lives", x -> x.served(0, 0, 5), UNKNOWN);
        full("FULL", x -> x.served(0, 0, 0), FULL);
        full("LAND, FULL", x -> x.served(10, 0, 0), UNKNOWN);
        full("born, FULL", x -> x.served(0, 8, 0), UNKNOWN);
        full("lives, FULL", x -> x.served(0, 0, -1), UNKNOWN);
    }

    // ---- what is asked

    private static void askedOfPacts() {
        due.sentence("LANDS that are BOUND by a PACT on a DAY, by bits. UNKNOWN; OUTSIDE.");
        some("bound, PACT", x -> x.bound(4, 0), UNKNOWN);
        some("bound, DAY", x -> x.bound(0, 1000), OUTSIDE);
        some("bound, PACT, DAY", x -> x.bound(4, 1000), UNKNOWN);
        some("since, PACT", x -> x.since(4, 0), UNKNOWN);
        some("since, LAND", x -> x.since(0, 4), UNKNOWN);
        some("since, PACT, LAND", x -> x.since(-1, -1), UNKNOWN);
    }

    private static void askedOfGoods() {
        due.sentence("What a LAND owes of a debt on a DAY (0 ahead of it). UNKNOWN; OUTSIDE.");
        some("owes, debt", x -> x.owes(3, 0, 0), UNKNOWN);
        some("owes, LAND", x -> x.owes(0, 4, 0), UNKNOWN);
        some("owes, DAY", x -> x.owes(0, 0, 1000), OUTSIDE);
        some("owes, debt, DAY", x -> x.owes(3, 0, 1000), UNKNOWN);
        some("owes, LAND, DAY", x -> x.owes(0, 4, -1), UNKNOWN);
        some("owns, thing", x -> x.owns(3, 0, 0), UNKNOWN);
        some("owns, LAND", x -> x.owns(0, 4, 0), UNKNOWN);
        some("owns, DAY", x -> x.owns(0, 0, 1000), OUTSIDE);
        some("owns, thing, DAY", x -> x.owns(3, 0, 1000), UNKNOWN);
        some("owns, LAND, DAY", x -> x.owns(0, 4, -1), UNKNOWN);
        some("paid, PENSIONER", x -> x.paid(2, 0), UNKNOWN);
        some("paid, DAY", x -> x.paid(0, 1000), OUTSIDE);
        some("paid, PENSIONER, DAY", x -> x.paid(2, 1000), UNKNOWN);
    }

    private static void askedOfHangs() {
        due.sentence("LEFT OUT, by bits; NONE. UNKNOWN; OUTSIDE.");
        some("hangs, DAY", x -> x.hangs(0, 0), OUTSIDE);
        some("hangs, what", x -> x.hangs(1, 2), OUTSIDE);
        some("without, PACT", x -> x.without(4, 0, 0, true), UNKNOWN);
        some("without, LAND", x -> x.without(0, 4, 0, true), UNKNOWN);
        some("without, DAY", x -> x.without(0, 0, 1000, true), OUTSIDE);
        some("without, PACT, DAY", x -> x.without(4, 0, 1000, false), UNKNOWN);
        some("without, LAND, DAY", x -> x.without(0, 4, -1, false), UNKNOWN);
        some("burden, LAND", x -> x.burden(4, 0, 0), UNKNOWN);
        some("burden, DAY", x -> x.burden(0, 1000, 0), OUTSIDE);
        some("burden, share", x -> x.burden(0, 0, 3), OUTSIDE);
        some("burden, LAND, DAY", x -> x.burden(4, 1000, 0), UNKNOWN);
        some("burden, LAND, share", x -> x.burden(4, 0, 3), UNKNOWN);
        some("best, LAND", x -> x.best(4, 0), UNKNOWN);
        some("best, DAY", x -> x.best(0, 1000), OUTSIDE);
        some("best, LAND, DAY", x -> x.best(-1, -1), UNKNOWN);
    }

    /** Numbers far out of all rows change nothing either. */
    private static void noDays() {
        due.sentence("the first of these that fits.");
        for (int n : new int[] {LOWEST, HIGHEST, -256, 65536, 1 << 30}) {
            some("change", x -> x.change(n, n, n, n, n), OUTSIDE);
            some("ground", x -> x.ground(n, n), OUTSIDE);
            some("write", x -> x.write(n, n), OUTSIDE);
            some("pact", x -> x.pact(n, n, n, n, n), UNKNOWN);
            some("word", x -> x.word(n, n, true, true, n), UNKNOWN);
            some("voice", x -> x.voice(n, n, true, n), UNKNOWN);
            some("debt", x -> x.debt(n, n, n, n), UNKNOWN);
            some("thing", x -> x.thing(n, n, n), OUTSIDE);
            some("served", x -> x.served(n, n, n), UNKNOWN);
        }
    }

    private static void questionsChangeNothing() {
        due.sentence("Nothing is promised beyond the answers and state changes described above");
        List<Consumer<PartedLand>> asked = new ArrayList<>(Arrays.asList(
            x -> x.lands(14), x -> x.has(3, 14), x -> x.whose(0, 14), x -> x.from(3, 1), x -> x.heir(0, 14),
            x -> x.fault(), x -> x.rule(2), x -> x.bound(0, 16), x -> x.since(0, 3), x -> x.owes(0, 3, 16),
            x -> x.owns(1, 3, 16), x -> x.paid(0, 16), x -> x.hangs(12, 0), x -> x.hangs(999, 1),
            x -> x.without(0, 1, 12, true), x -> x.burden(3, 16, 2), x -> x.best(3, 16), x -> x.count(3)));
        for (Consumer<PartedLand> question : asked) {
            ToIntFunction<PartedLand> call = x -> {
                question.accept(x);
                question.accept(x);
                return 0;
            };
            some("asked twice", call, 0);
            full("asked twice", call, 0);
        }
    }
}
