import java.util.ArrayList;
import java.util.List;
import java.util.function.Consumer;
import java.util.function.ToIntFunction;

/**
 * Two objects that were told the same, of which one was asked for something more that must not change it: whatever may
 * be asked, they answer alike, and also when both are told more. An object is used for at most 512 calls, so there are
 * new twins for every few questions.
 */
final class Twins {
    private static final int QUESTIONS_A_TWIN = 300;

    private record Question(String name, ToIntFunction<PartedLand> ask) { }

    private final Due due;
    private final Consumer<PartedLand> told;
    private final int[] days;

    /** Asked on these days, what was told must be told in some 150 calls. */
    Twins(Due due, Consumer<PartedLand> told, int... days) {
        this.due = due;
        this.told = told;
        this.days = days;
    }

    /** The call must be answered so, and change nothing. */
    void sameBehind(String name, ToIntFunction<PartedLand> call, int want) {
        List<Question> questions = questions();
        for (boolean more : new boolean[] {false, true}) {
            for (int begin = 0; begin < questions.size(); begin += QUESTIONS_A_TWIN) {
                int end = Math.min(questions.size(), begin + QUESTIONS_A_TWIN);
                ask(name, call, want, more, questions.subList(begin, end));
            }
        }
    }

    private void ask(String name, ToIntFunction<PartedLand> call, int want, boolean more, List<Question> questions) {
        PartedLand one = new PartedLand();
        PartedLand other = new PartedLand();
        told.accept(one);
        told.accept(other);
        due.is(name, call.applyAsInt(one), want);
        if (more) questions = with(tellMore(), questions);
        for (Question q : questions) {
            due.is(name + ", behind it " + q.name, q.ask.applyAsInt(one), q.ask.applyAsInt(other));
        }
    }

    private static List<Question> with(List<Question> ahead, List<Question> behind) {
        List<Question> all = new ArrayList<>(ahead);
        all.addAll(behind);
        return all;
    }

    private List<Question> questions() {
        PartedLand x = new PartedLand();
        told.accept(x);
        List<Question> all = new ArrayList<>();
        for (int i = 0; i <= 10; i++) {
            int what = i;
            all.add(new Question("count " + what, o -> o.count(what)));
            all.add(new Question("rule " + what, o -> o.rule(what)));
        }
        all.add(new Question("fault", PartedLand::fault));
        askSince(all, x.count(4), x.count(1));
        for (int day : days) askOn(all, x, day);
        return all;
    }

    private static void askSince(List<Question> all, int pacts, int lands) {
        for (int land = 0; land <= lands; land++) {
            int l = land;
            all.add(new Question("from " + l, o -> o.from(l, 0)));
            all.add(new Question("from, the day, " + l, o -> o.from(l, 1)));
            for (int pact = 0; pact <= pacts; pact++) {
                int p = pact;
                all.add(new Question("since " + p + " " + l, o -> o.since(p, l)));
            }
        }
    }

    private static void askOn(List<Question> all, PartedLand x, int day) {
        String on = " on day " + day;
        all.add(new Question("lands" + on, o -> o.lands(day)));
        all.add(new Question("hangs" + on, o -> o.hangs(day, 0)));
        all.add(new Question("most hangs" + on, o -> o.hangs(day, 1)));
        for (int i = 0; i <= x.count(0); i++) {
            int ground = i;
            all.add(new Question("whose " + ground + on, o -> o.whose(ground, day)));
        }
        for (int i = 0; i <= x.count(9); i++) {
            int pensioner = i;
            all.add(new Question("paid " + pensioner + on, o -> o.paid(pensioner, day)));
        }
        for (int i = 0; i <= x.count(4); i++) {
            int pact = i;
            all.add(new Question("bound " + pact + on, o -> o.bound(pact, day)));
        }
        for (int land = 0; land <= x.count(1); land++) askOfLand(all, x, land, day);
    }

    private static void askOfLand(List<Question> all, PartedLand x, int land, int day) {
        String of = " of " + land + " on day " + day;
        all.add(new Question("has" + of, o -> o.has(land, day)));
        all.add(new Question("heir" + of, o -> o.heir(land, day)));
        all.add(new Question("best" + of, o -> o.best(land, day)));
        for (int i = 0; i < 3; i++) {
            int share = i;
            all.add(new Question("burden " + share + of, o -> o.burden(land, day, share)));
        }
        for (int i = 0; i <= x.count(7); i++) {
            int debt = i;
            all.add(new Question("owes " + debt + of, o -> o.owes(debt, land, day)));
        }
        for (int i = 0; i <= x.count(8); i++) {
            int thing = i;
            all.add(new Question("owns " + thing + of, o -> o.owns(thing, land, day)));
        }
        if (day % 5 != 0) return;
        for (int i = 0; i < x.count(4) && i < 3; i++) {
            int pact = i;
            all.add(new Question("without " + pact + of, o -> o.without(pact, land, day, true)));
            all.add(new Question("without, not, " + pact + of, o -> o.without(pact, land, day, false)));
        }
    }

    /** One more of everything; the first days are the least ones that the twins may take. */
    private static List<Question> tellMore() {
        List<Question> all = new ArrayList<>();
        all.add(new Question("ground", o -> o.ground(7, 7)));
        all.add(new Question("same", o -> o.change(4, 21, 1, 0, 0)));
        all.add(new Question("part", o -> o.change(0, 22, 3, 0, 1)));
        all.add(new Question("part of land 0", o -> o.change(0, 22, 0, 0, 2)));
        all.add(new Question("pact", o -> o.pact(2, 3, 0, 0, 22)));
        all.add(new Question("word", o -> o.word(0, 1, false, true, 5)));
        all.add(new Question("voice", o -> o.voice(2, 1, false, 20)));
        all.add(new Question("debt", o -> o.debt(3, 9, -1, 23)));
        all.add(new Question("thing", o -> o.thing(1, 50, 0)));
        all.add(new Question("served", o -> o.served(1, 1, 1)));
        all.add(new Question("write", o -> o.write(' ', 1)));
        all.add(new Question("rules", PartedLand::rules));
        return all;
    }
}
