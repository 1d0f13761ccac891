import java.util.Random;

/** Runs of calls by a fixed seed, each asked of the class and of the model of the document. */
public final class ModelTest {
    private static final int RUNS = 1500, CALLS = 160;
    private static final int[] ODD = {-1, -2, 10, 12, 24, 31, 32, 33, 64, 160, 999, 1000, Integer.MIN_VALUE, Integer.MAX_VALUE};
    private static final String[] TOKENS = {"follow", "clean", "silence", "yes", "no", "within", "share", "heads", "worth",
        "equal", "pay", "served", "lives", "born", ";", ";", " ", "0", "3", "12", "007", "1000", "x", "F", "-", "\u00e9"};
    private static final String[] LINES = {"follow", "clean", "silence yes", "silence no", "within 0", "within 2",
        "within 9", "within 40", "share heads", "share worth", "share equal", "pay served", "pay lives", "pay born"};

    private static final Due due = new Due();

    private final Random chance;
    private final PartedLand x = new PartedLand();
    private final Model m = new Model();
    private final int dayWidth;
    private int today = 0;

    private ModelTest(long seed) {
        chance = new Random(seed);
        dayWidth = seed % 3 == 0 ? 3 : seed % 3 == 1 ? 12 : 60;
    }

    public static void main(String[] args) {
        for (long seed = 0; seed < RUNS; seed++) {
            due.part("seed " + seed);
            int ahead = due.asked();
            new ModelTest(seed).run();
            due.holds("an object is used for more than 512 calls", due.asked() - ahead <= 512);
        }
        due.end();
    }

    private void run() {
        int grounds = chance.nextInt(10) == 0 ? chance.nextInt(9) : 3 + chance.nextInt(6);
        for (int i = 0; i < grounds; i++) askGround();
        for (int i = 0; i < CALLS; i++) {
            if (chance.nextInt(3) > 0) tell();
            else ask();
        }
        for (int i = 0; i < 40; i++) ask();
    }

    private int upTo(int most) {
        return chance.nextInt(25) == 0 ? ODD[chance.nextInt(ODD.length)] : chance.nextInt(most + 1);
    }

    private int land() {
        return upTo(Math.max(0, m.count(1) - 1));
    }

    private int day() {
        if (chance.nextInt(20) == 0) return upTo(999);
        return upTo(dayWidth * 8);
    }

    private boolean coin() {
        return chance.nextBoolean();
    }

    private void tell() {
        switch (chance.nextInt(12)) {
            case 0: case 1: case 2: tellChange(); break;
            case 3: tellPact(); break;
            case 4: case 5: case 6: tellWord(); break;
            case 7: tellVoice(); break;
            case 8: tellDebt(); break;
            case 9: tellThing(); break;
            case 10: tellServed(); break;
            default: tellText(); break;
        }
    }

    private void askGround() {
        int heads = chance.nextInt(9) == 0 ? upTo(1000) : 1 + chance.nextInt(6);
        int worth = coin() ? 0 : upTo(9);
        due.is("ground " + heads + " " + worth, x.ground(heads, worth), m.ground(heads, worth));
    }

    private void tellChange() {
        int kind = upTo(4);
        if (coin()) today += chance.nextInt(dayWidth);
        int day = chance.nextInt(12) == 0 ? day() : today;
        int a = land();
        int b = land();
        int set = upTo(255);
        int has = m.has(a, 999);
        if (has > 0 && chance.nextInt(8) > 0) set &= has;
        due.is("change " + kind + " " + day + " " + a + " " + b + " " + set,
            x.change(kind, day, a, b, set), m.change(kind, day, a, b, set));
    }

    private void tellPact() {
        int kind = coin() ? 2 : upTo(3);
        int land = land();
        int third = upTo(5);
        int ground = upTo(7);
        int day = chance.nextInt(3) == 0 ? day() : chance.nextInt(today + 1);
        due.is("pact " + kind + " " + land + " " + third + " " + ground + " " + day,
            x.pact(kind, land, third, ground, day), m.pact(kind, land, third, ground, day));
    }

    private void tellWord() {
        int pact = upTo(Math.max(0, m.count(4) - 1));
        int land = land();
        boolean byThird = chance.nextInt(3) == 0;
        boolean yes = coin();
        int day = day();
        due.is("word " + pact + " " + land + " " + byThird + " " + yes + " " + day,
            x.word(pact, land, byThird, yes, day), m.word(pact, land, byThird, yes, day));
    }

    private void tellVoice() {
        int third = upTo(5);
        int land = land();
        boolean yes = chance.nextInt(3) > 0;
        int day = day();
        due.is("voice " + third + " " + land + " " + yes + " " + day,
            x.voice(third, land, yes, day), m.voice(third, land, yes, day));
    }

    private void tellDebt() {
        int land = land();
        int sum = coin() ? upTo(12) : upTo(10000);
        int ground = coin() ? -1 : upTo(7);
        int day = chance.nextInt(3) == 0 ? day() : chance.nextInt(today + 1);
        due.is("debt " + land + " " + sum + " " + ground + " " + day,
            x.debt(land, sum, ground, day), m.debt(land, sum, ground, day));
    }

    private void tellThing() {
        int kind = upTo(3);
        int many = coin() ? upTo(12) : upTo(10000);
        int ground = upTo(7);
        due.is("thing " + kind + " " + many + " " + ground, x.thing(kind, many, ground), m.thing(kind, many, ground));
    }

    private void tellServed() {
        int land = land();
        int born = upTo(7);
        int lives = upTo(7);
        due.is("served " + land + " " + born + " " + lives, x.served(land, born, lives), m.served(land, born, lives));
    }

    private void tellText() {
        StringBuilder text = new StringBuilder();
        if (chance.nextInt(4) > 0) {
            int lines = 1 + chance.nextInt(9);
            for (int i = 0; i < lines; i++) {
                if (i > 0) text.append(coin() ? ";" : " ; ");
                text.append(LINES[chance.nextInt(LINES.length)]);
            }
        } else {
            int tokens = chance.nextInt(9);
            for (int i = 0; i < tokens; i++) text.append(coin() ? " " : "").append(TOKENS[chance.nextInt(TOKENS.length)]);
        }
        for (int i = 0; i < text.length(); i += 8) {
            long packed = chance.nextLong();
            int n = Math.min(8, text.length() - i);
            for (int j = 0; j < n; j++) packed = packed & ~(255L << 8 * j) | (long) text.charAt(i + j) << 8 * j;
            due.is("write", x.write(packed, n), m.write(packed, n));
        }
        due.is("fault of '" + text + "'", x.fault(), m.fault());
        due.is("rules of '" + text + "'", x.rules(), m.rules());
        if (chance.nextInt(4) > 0) due.is("erase", x.erase(), m.erase());
    }

    private void ask() {
        int land = land();
        int day = day();
        int n = upTo(9);
        int pact = upTo(Math.max(0, m.count(4) - 1));
        boolean yes = coin();
        String with = " " + land + " " + day + " " + n + " " + pact + " " + yes;
        switch (chance.nextInt(20)) {
            case 0: due.is("lands" + with, x.lands(day), m.lands(day)); break;
            case 1: due.is("has" + with, x.has(land, day), m.has(land, day)); break;
            case 2: due.is("whose" + with, x.whose(n, day), m.whose(n, day)); break;
            case 3: due.is("from" + with, x.from(land, n / 4), m.from(land, n / 4)); break;
            case 4: due.is("heir" + with, x.heir(land, day), m.heir(land, day)); break;
            case 5: due.is("write" + with, x.write(day, n), m.write(day, n)); break;
            case 6: due.is("fault" + with, x.fault(), m.fault()); break;
            case 7: due.is("rule" + with, x.rule(n), m.rule(n)); break;
            case 8: case 9: due.is("bound" + with, x.bound(pact, day), m.bound(pact, day)); break;
            case 10: due.is("since" + with, x.since(pact, land), m.since(pact, land)); break;
            case 11: due.is("owes" + with, x.owes(n, land, day), m.owes(n, land, day)); break;
            case 12: due.is("owns" + with, x.owns(n, land, day), m.owns(n, land, day)); break;
            case 13: due.is("paid" + with, x.paid(n, day), m.paid(n, day)); break;
            case 14: due.is("hangs" + with, x.hangs(day, 0), m.hangs(day, 0)); break;
            case 15: askDearOnes(land, day, pact, yes, with); break;
            case 16: due.is("burden" + with, x.burden(land, day, n / 3), m.burden(land, day, n / 3)); break;
            case 17: due.is("best" + with, x.best(land, day), m.best(land, day)); break;
            case 18: due.is("count" + with, x.count(n), m.count(n)); break;
            default: askGround(); break;
        }
    }

    private void askDearOnes(int land, int day, int pact, boolean yes, String with) {
        due.is("without" + with, x.without(pact, land, day, yes), m.without(pact, land, day, yes));
        if (day > 60) return;
        due.is("hangs most" + with, x.hangs(day, 1), m.hangs(day, 1));
    }
}
