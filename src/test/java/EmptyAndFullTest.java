import java.util.List;
import java.util.function.ToIntFunction;

/** The empty object, the full one, the last call that an object is used for, and objects beside one another. */
public final class EmptyAndFullTest extends Edges {
    private static final int MOST_CALLS = 512;

    private record Asked(String name, ToIntFunction<PartedLand> ask, int want) { }

    public static void main(String[] args) {
        emptyAnswers();
        emptyUnknown();
        emptyTold();
        fullLast();
        fullOneMore();
        fullTextAgain();
        lastCallOfAFullOne();
        lastCallOfAnEmptyOne();
        lastCallTells();
        manyTexts();
        besideOneAnother();
        due.end();
    }

    // ---- the empty object

    private static void emptyAnswers() {
        due.sentence("`PartedLand()`: LAND 0 without GROUNDS.");
        PartedLand x = new PartedLand();
        for (int day : new int[] {0, 1, 999}) {
            due.is("lands", x.lands(day), 1);
            due.is("has", x.has(0, day), 0);
            due.is("heir", x.heir(0, day), 0);
            due.is("best", x.best(0, day), 0);
            for (int share = 0; share < 3; share++) due.is("burden", x.burden(0, day, share), 100000);
        }
        due.is("hangs", x.hangs(1, 0) + x.hangs(999, 0), 0);
        due.is("most hangs", x.hangs(1, 1) * 10 + x.hangs(999, 1), 11);
        due.is("from", x.from(0, 0), NONE);
        due.is("fault", x.fault(), 0);
        due.is("rules", x.rules(), NOT);
        due.is("erase", x.erase(), 0);
        int[] rules = {0, 0, 100, 0, 0};
        for (int what = 0; what < 5; what++) due.is("rule", x.rule(what), rules[what]);
    }

    private static void emptyUnknown() {
        due.sentence("UNKNOWN (no such GROUND, LAND, PACT, THIRD, debt, thing, PENSIONER)");
        PartedLand x = new PartedLand();
        for (int number : new int[] {0, 1, 7, 11, 31, 32, HIGHEST, NONE, LOWEST}) {
            due.is("whose", x.whose(number, 0), UNKNOWN);
            due.is("word", x.word(number, 0, false, true, 0), UNKNOWN);
            due.is("bound", x.bound(number, 0), UNKNOWN);
            due.is("since", x.since(number, 0), UNKNOWN);
            due.is("owes", x.owes(number, 0, 0), UNKNOWN);
            due.is("owns", x.owns(number, 0, 0), UNKNOWN);
            due.is("paid", x.paid(number, 0), UNKNOWN);
            due.is("without", x.without(number, 0, 0, true), UNKNOWN);
            due.is("pact of a ground", x.pact(OF_GROUND, 0, 0, number, 0), UNKNOWN);
            due.is("thing on a ground", x.thing(FIXED, 1, number), UNKNOWN);
            due.is("served", x.served(0, number, number), UNKNOWN);
            if (number != NONE) due.is("debt of a ground", x.debt(0, 1, number, 0), UNKNOWN);
            if (number != 0) due.is("another land", x.has(number, 0), UNKNOWN);
        }
        for (int kind : new int[] {PART, FALL, SAME}) due.is("change", x.change(kind, 0, 0, 0, 1), NOT);
        for (int kind : new int[] {JOIN, GIVE}) due.is("change", x.change(kind, 0, 0, 1, 1), UNKNOWN);
        for (int kind : new int[] {JOIN, GIVE}) due.is("change", x.change(kind, 0, 0, 0, 1), NOT);
    }

    private static void emptyTold() {
        due.sentence("`PartedLand()`: LAND 0 without GROUNDS.");
        PartedLand x = new PartedLand();
        due.is("pact of rank", x.pact(OF_RANK, 0, 0, 0, 999), 0);
        due.is("pact of trade", x.pact(OF_TRADE, 0, 5, 0, 0), 1);
        due.is("debt", x.debt(0, 9999, NONE, 999), 0);
        due.is("thing moved", x.thing(MOVED, 5, 0), 0);
        due.is("thing abroad", x.thing(ABROAD, 5, 0), 1);
        due.is("voice", x.voice(0, 0, true, 0), 1);
        due.is("word", x.word(1, 0, false, false, 0), 1);
        due.is("bound", x.bound(0, 999) * 10 + x.bound(1, 0), 11);
        due.is("owes", x.owes(0, 0, 999), 9999);
        due.is("owns", x.owns(0, 0, 0) * 10 + x.owns(1, 0, 0), 51);
        due.is("a ground still", x.ground(1, 1), 0);
    }

    // ---- the full object

    private static List<Asked> lastOnes() {
        return List.of(
            new Asked("whose", x -> x.whose(7, 999), 7), new Asked("whose", x -> x.whose(8, 999), UNKNOWN),
            new Asked("has", x -> x.has(9, 9), bits(1)), new Asked("has", x -> x.has(10, 9), UNKNOWN),
            new Asked("from", x -> x.from(9, 1), 9), new Asked("heir", x -> x.heir(9, 999), 8),
            new Asked("heir", x -> x.heir(0, 999), 8), new Asked("lands", x -> x.lands(12), 0b111111100),
            new Asked("bound", x -> x.bound(10, 999), bits(8)), new Asked("bound", x -> x.bound(12, 0), UNKNOWN),
            new Asked("bound", x -> x.bound(11, 8), 0b11111101), new Asked("since", x -> x.since(11, 7), 7),
            new Asked("since", x -> x.since(2, 3), 3), new Asked("since", x -> x.since(11, 9), 9),
            new Asked("owes", x -> x.owes(7, 7, 999), 107), new Asked("owes", x -> x.owes(8, 7, 999), UNKNOWN),
            new Asked("owns", x -> x.owns(6, 6, 999), 1), new Asked("owns", x -> x.owns(7, 0, 0), 17),
            new Asked("owns", x -> x.owns(8, 0, 0), UNKNOWN), new Asked("paid", x -> x.paid(11, 999), 8),
            new Asked("paid", x -> x.paid(12, 999), UNKNOWN), new Asked("fault", PartedLand::fault, NONE),
            new Asked("hangs", x -> x.hangs(999, 1), 9), new Asked("without", x -> x.without(11, 0, 1, true), 0),
            new Asked("burden", x -> x.burden(9, 0, 0), 100000), new Asked("best", x -> x.best(9, 8), 0),
            new Asked("count", x -> x.count(1), 10), new Asked("rules", PartedLand::rules, 2),
            new Asked("erase", PartedLand::erase, 160), new Asked("rule", x -> x.rule(2), 100));
    }

    private static void fullLast() {
        due.sentence("LANDS are numbered as they come, 10 at most");
        for (Asked a : lastOnes()) due.is(a.name, a.ask.applyAsInt(full()), a.want);
    }

    private static void fullOneMore() {
        due.sentence("NOT (not now: as told), FULL: the first of these that fits.");
        PartedLand x = full();
        for (int again = 0; again < 3; again++) {
            due.is("ground", x.ground(1, 1), NOT);
            due.is("change", x.change(SAME, 999, 8, 0, 0), FULL);
            due.is("write", x.write(' ', 1), FULL);
            due.is("pact", x.pact(OF_TRADE, 8, 0, 0, 999), FULL);
            due.is("word", x.word(11, 8, true, true, 999), FULL);
            due.is("voice", x.voice(5, 8, true, 999), FULL);
            due.is("debt", x.debt(8, 1, NONE, 999), FULL);
            due.is("thing", x.thing(ABROAD, 0, 0), FULL);
            due.is("served", x.served(9, 7, 7), FULL);
        }
        int[] most = {8, 10, 12, 160, 12, 24, 24, 8, 8, 12};
        for (int what = 0; what < 10; what++) due.is("still", x.count(what), most[what]);
        due.is("an earlier day is refused for itself", x.change(SAME, 11, 8, 0, 0), OUTSIDE);
    }

    private static void fullTextAgain() {
        due.sentence("THE TEXT becomes THE RULES, and is empty then");
        PartedLand x = full();
        due.is("two lines", x.rules(), 2);
        due.is("there is room", x.write(' ', 1), 1);
        due.is("clean", x.rule(0), 1);
        due.is("nobody joins", x.bound(11, 10) & bits(8), 0);
        PartedLand y = full();
        due.is("had 160", y.erase(), 160);
        for (int i = 1; i <= 20; i++) due.is("full again", y.write(0x2020202020202020L, 8), 8 * i);
        due.is("full again", y.write(' ', 1), FULL);
    }

    // ---- 512 calls

    private static void lastCallOfAFullOne() {
        due.sentence("An object is used for at most 512 calls after it has been made");
        for (Asked a : lastOnes()) {
            PartedLand x = new PartedLand();
            tellFull(x);
            for (int calls = 128; calls < MOST_CALLS - 1; calls++) askAny(x, calls);
            due.is("as the last call: " + a.name, a.ask.applyAsInt(x), a.want);
        }
    }

    /** A question, or a call that a full object refuses. */
    private static void askAny(PartedLand x, int calls) {
        switch (calls % 9) {
            case 0: due.is("word", x.word(0, 0, true, true, 0), FULL); break;
            case 1: due.is("change", x.change(SAME, 12, 8, 0, 0), FULL); break;
            case 2: due.is("hangs", x.hangs(999, 1), 9); break;
            case 3: due.is("fault", x.fault(), NONE); break;
            case 4: due.is("write", x.write(0, 8), FULL); break;
            case 5: due.is("since", x.since(11, 7), 7); break;
            case 6: due.is("pact", x.pact(OF_RANK, 0, 0, 0, 0), FULL); break;
            case 7: due.is("without", x.without(11, 8, 999, false), NONE); break;
            default: due.is("debt", x.debt(0, 1, NONE, 0), FULL); break;
        }
    }

    private static void lastCallOfAnEmptyOne() {
        due.sentence("An object is used for at most 512 calls after it has been made");
        PartedLand x = new PartedLand();
        for (int calls = 0; calls < MOST_CALLS - 1; calls++) due.is("lands", x.lands(calls % 1000), 1);
        due.is("the last call", x.ground(1, 1), 0);
    }

    private static void lastCallTells() {
        due.sentence("An object is used for at most 512 calls after it has been made");
        PartedLand x = alike(8);
        pact(x, OF_TRADE, 0, 0, 0);
        for (int i = 0; i < 249; i++) {
            due.is("refused", x.change(JOIN, 1, 0, 1, 0), UNKNOWN);
            due.is("refused", x.ground(0, 0), OUTSIDE);
        }
        due.is("the 509th call", x.change(PART, 1, 0, 0, bits(7)), 1);
        due.is("the 510th call", x.word(0, 1, false, false, 999), 1);
        due.is("the 511th call", x.bound(0, 998), 3);
        due.is("the last call", x.hangs(999, 0), 1);
    }

    private static void manyTexts() {
        due.sentence("An object is used for at most 512 calls after it has been made");
        PartedLand x = new PartedLand();
        for (int i = 0; i < 85; i++) {
            due.is("within ", x.write(0x206e6968746977L, 7), 7);
            due.is("a number", x.write('0' + i % 10, 1), 8);
            due.is("rules", x.rules(), 1);
            due.is("within", x.rule(2), i % 10);
            due.is("clean, and erased", x.write(0x6e61656c63L, 5) * 10 + x.erase(), 55);
        }
    }

    // ---- objects beside one another

    private static void besideOneAnother() {
        due.part("objects beside one another");
        PartedLand x = alike(4);
        PartedLand y = full();
        PartedLand z = new PartedLand();
        change(x, PART, 1, 0, 0, 3);
        text(x, "pay");
        text(z, "share equal");
        due.is("a full one's rules", y.rules(), 2);
        due.is("an empty one's rules", z.rules(), 1);
        due.is("a fault of its own", x.fault(), 3);
        due.is("its own grounds", x.count(0) * 100 + y.count(0) * 10 + z.count(0), 480);
        due.is("its own lands", x.lands(999) * 10 + z.lands(999), 31);
        due.is("its own rules", x.rule(0) * 100 + y.rule(0) * 10 + z.rule(0), 10);
        due.is("its own share", x.rule(3) * 100 + y.rule(3) * 10 + z.rule(3), 2);
        due.is("its own pacts", x.bound(0, 0), UNKNOWN);
    }
}
