import java.util.ArrayList;
import java.util.Arrays;
import java.util.List;
import java.util.regex.Matcher;
import java.util.regex.Pattern;

/**
 * The document told a second time, in another way: nothing is kept but what was told;
 * every answer begins again from the first day, day by day, and by recursion.
 */
final class Model {
    private static final int NONE = -1, UNKNOWN = -2, OUTSIDE = -3, NOT = -4, FULL = -5;

    private record Ground(int heads, int worth) { }
    private record Change(int kind, int day, int a, int b, int set, int first) { }
    private record Pact(int kind, int land, int ground, int day) { }
    private record Word(int pact, int land, boolean byThird, boolean yes, int day) { }
    private record Voice(int third, int land, boolean yes, int day) { }
    private record Debt(int land, int sum, int ground, int day) { }
    private record Thing(int kind, int many, int ground) { }
    private record Pensioner(int land, int born, int lives) { }

    private final List<Ground> grounds = new ArrayList<>();
    private final List<Change> changes = new ArrayList<>();
    private final List<Pact> pacts = new ArrayList<>();
    private final List<Word> words = new ArrayList<>();
    private final List<Voice> voices = new ArrayList<>();
    private final List<Debt> debts = new ArrayList<>();
    private final List<Thing> things = new ArrayList<>();
    private final List<Pensioner> pensioners = new ArrayList<>();
    private final StringBuilder text = new StringBuilder();
    private int[] rules = {0, 0, 100, 0, 0};

    // ---- what stands behind the first n changes

    private static boolean noDay(int day) {
        return day < 0 || day > 999;
    }

    private int landCount() {
        int lands = 1;
        for (Change c : changes) lands += c.kind == 0 ? 1 : c.kind == 1 ? 2 : 0;
        return lands;
    }

    private boolean noLand(int land) {
        return land < 0 || land >= landCount();
    }

    private boolean noGround(int ground) {
        return ground < 0 || ground >= grounds.size();
    }

    private int done(int day) {
        return (int) changes.stream().filter(c -> c.day <= day).count();
    }

    /** The change by which a land came, or NONE. */
    private int cameBy(int land) {
        for (int i = 0; i < changes.size(); i++) {
            Change c = changes.get(i);
            if (c.kind == 0 && c.first == land) return i;
            if (c.kind == 1 && (c.first == land || c.first + 1 == land)) return i;
        }
        return NONE;
    }

    /** The change by which a land was no more, or NONE. */
    private int wentBy(int land) {
        for (int i = 0; i < changes.size(); i++) {
            Change c = changes.get(i);
            if (c.kind == 1 && c.a == land || c.kind == 2 && c.b == land) return i;
        }
        return NONE;
    }

    private boolean there(int land, int n) {
        int went = wentBy(land);
        return !noLand(land) && cameBy(land) < n && (went == NONE || went >= n);
    }

    private int owner(int ground, int n) {
        int owner = 0;
        for (Change c : changes.subList(0, n)) {
            boolean in = (c.set >> ground & 1) != 0;
            if (c.kind == 0 && in && owner == c.a) owner = c.first;
            else if (c.kind == 1 && owner == c.a) owner = in ? c.first : c.first + 1;
            else if (c.kind == 2 && owner == c.b) owner = c.a;
            else if (c.kind == 3 && in && owner == c.a) owner = c.b;
        }
        return owner;
    }

    private int held(int land, int n) {
        int bits = 0;
        for (int g = 0; g < grounds.size(); g++) if (owner(g, n) == land) bits |= 1 << g;
        return bits;
    }

    private int heads(int set) {
        int sum = 0;
        for (int g = 0; g < grounds.size(); g++) if ((set >> g & 1) != 0) sum += grounds.get(g).heads;
        return sum;
    }

    private int worth(int set) {
        int sum = 0;
        for (int g = 0; g < grounds.size(); g++) if ((set >> g & 1) != 0) sum += grounds.get(g).worth;
        return sum;
    }

    // ---- grounds, changes

    int ground(int heads, int worth) {
        if (heads < 1 || heads > 999 || worth < 0 || worth > 999) return OUTSIDE;
        if (!changes.isEmpty()) return NOT;
        if (grounds.size() == 8) return FULL;
        grounds.add(new Ground(heads, worth));
        return grounds.size() - 1;
    }

    int change(int kind, int day, int a, int b, int set) {
        int n = changes.size();
        if (kind < 0 || kind > 4 || noDay(day)) return OUTSIDE;
        if (changes.stream().anyMatch(c -> c.day > day)) return OUTSIDE;
        if (pacts.stream().anyMatch(p -> p.day >= day) || debts.stream().anyMatch(d -> d.day >= day)) return OUTSIDE;
        if (!there(a, n)) return UNKNOWN;
        if ((kind == 2 || kind == 3) && !there(b, n)) return UNKNOWN;
        if ((kind == 2 || kind == 3) && a == b) return NOT;
        int all = held(a, n);
        if ((kind == 0 || kind == 1 || kind == 3) && (set == 0 || (set | all) != all || set == all)) return NOT;
        if (kind == 4 && cameBy(a) == NONE) return NOT;
        int first = landCount();
        if (n == 12 || first + (kind == 0 ? 1 : kind == 1 ? 2 : 0) > 10) return FULL;
        changes.add(new Change(kind, day, a, b, set, first));
        return kind < 2 ? first : a;
    }

    int lands(int day) {
        if (noDay(day)) return OUTSIDE;
        int bits = 0;
        for (int land = 0; land < 10; land++) if (there(land, done(day))) bits |= 1 << land;
        return bits;
    }

    int has(int land, int day) {
        if (noLand(land)) return UNKNOWN;
        return noDay(day) ? OUTSIDE : held(land, done(day));
    }

    int whose(int ground, int day) {
        if (noGround(ground)) return UNKNOWN;
        return noDay(day) ? OUTSIDE : owner(ground, done(day));
    }

    int from(int land, int what) {
        if (noLand(land)) return UNKNOWN;
        if (what != 0 && what != 1) return OUTSIDE;
        if (land == 0) return what == 0 ? NONE : 0;
        Change c = changes.get(cameBy(land));
        return what == 0 ? c.a : c.day;
    }

    int heir(int land, int day) {
        if (noLand(land)) return UNKNOWN;
        return noDay(day) ? OUTSIDE : heirBehind(land, done(day));
    }

    private int heirBehind(int land, int n) {
        if (cameBy(land) >= n) return NONE;
        if (there(land, n)) return land;
        int went = wentBy(land);
        Change c = changes.get(went);
        if (c.kind == 2) return heirBehind(c.a, n);
        int first = heads(held(c.first, went + 1));
        int other = heads(held(c.first + 1, went + 1));
        return heirBehind(first < other ? c.first + 1 : c.first, n);
    }

    // ---- rules

    int write(long bytes, int n) {
        if (n < 1 || n > 8) return OUTSIDE;
        if (text.length() + n > 160) return FULL;
        for (int i = 0; i < n; i++) text.append((char) (bytes >>> 8 * i & 255));
        return text.length();
    }

    int erase() {
        int had = text.length();
        text.setLength(0);
        return had;
    }

    private static final String[] LINES = {"follow", "clean", "silence yes", "silence no", "within #", "share heads",
        "share worth", "share equal", "pay served", "pay lives", "pay born"};

    /** The place of the fault; or, if there is none, the lines are put into the list. */
    private int read(List<String> lines) {
        Matcher m = Pattern.compile("[a-z]+|[0-9]+|[^ ]", Pattern.DOTALL).matcher(text);
        String line = "";
        int ended = 0;
        while (m.find()) {
            String token = m.group();
            if (token.equals(";") && isLine(line) && ended < 7) {
                lines.add(line);
                ended++;
                line = "";
                continue;
            }
            String longer = line.isEmpty() ? token : line + " " + token;
            if (!isBeginning(longer)) return m.start();
            line = longer;
        }
        if (!isLine(line)) return text.length();
        lines.add(line);
        return NONE;
    }

    private static String pattern(String line) {
        return line.replaceAll("\\b[0-9]{1,3}\\b", "#");
    }

    private static boolean isLine(String line) {
        return !line.contains("#") && Arrays.asList(LINES).contains(pattern(line));
    }

    private static boolean isBeginning(String line) {
        if (line.contains("#")) return false;
        return Arrays.stream(LINES).anyMatch(l -> (l + " ").startsWith(pattern(line) + " "));
    }

    int fault() {
        return read(new ArrayList<>());
    }

    int rules() {
        List<String> lines = new ArrayList<>();
        if (read(lines) != NONE) return NOT;
        rules = new int[] {0, 0, 100, 0, 0};
        List<List<String>> kinds = List.of(List.of("follow", "clean"), List.of("silence no", "silence yes"), List.of(),
            List.of("share heads", "share worth", "share equal"), List.of("pay served", "pay lives", "pay born"));
        for (String line : lines) {
            for (int what = 0; what < 5; what++) {
                if (kinds.get(what).contains(line)) rules[what] = kinds.get(what).indexOf(line);
            }
            if (line.startsWith("within ")) rules[2] = Integer.parseInt(line.substring(7));
        }
        text.setLength(0);
        return lines.size();
    }

    int rule(int what) {
        return what < 0 || what > 4 ? OUTSIDE : rules[what];
    }

    // ---- pacts

    int pact(int kind, int land, int third, int ground, int day) {
        if (noLand(land) || third < 0 || third > 5 || kind == 0 && noGround(ground)) return UNKNOWN;
        if (kind < 0 || kind > 2 || noDay(day)) return OUTSIDE;
        if (!there(land, done(day)) || kind == 0 && owner(ground, done(day)) != land) return NOT;
        if (pacts.size() == 12) return FULL;
        pacts.add(new Pact(kind, land, ground, day));
        return pacts.size() - 1;
    }

    private boolean noPact(int pact) {
        return pact < 0 || pact >= pacts.size();
    }

    int word(int pact, int land, boolean byThird, boolean yes, int day) {
        if (noPact(pact) || noLand(land)) return UNKNOWN;
        if (noDay(day)) return OUTSIDE;
        if (words.size() == 24) return FULL;
        words.add(new Word(pact, land, byThird, yes, day));
        return words.size();
    }

    int voice(int third, int land, boolean yes, int day) {
        if (third < 0 || third > 5 || noLand(land)) return UNKNOWN;
        if (noDay(day)) return OUTSIDE;
        if (voices.size() == 24) return FULL;
        voices.add(new Voice(third, land, yes, day));
        return voices.size();
    }

    int bound(int pact, int day) {
        if (noPact(pact)) return UNKNOWN;
        return noDay(day) ? OUTSIDE : boundBits(pact, day, words);
    }

    private int boundBits(int pact, int day, List<Word> told) {
        int bits = 0;
        for (int land = 0; land < landCount(); land++) {
            if (isBound(pact, land, day, done(day), told)) bits |= 1 << land;
        }
        return bits;
    }

    private boolean isBound(int pact, int land, int day, int n, List<Word> told) {
        Pact p = pacts.get(pact);
        if (day < p.day || !there(land, n)) return false;
        if (p.kind == 0) return owner(p.ground, n) == land;
        if (p.kind == 1) return land == ranked(p, day, n);
        if (land == p.land) return true;
        for (int i = 0; i < n; i++) {
            Change c = changes.get(i);
            if (c.day <= p.day) continue;
            boolean joins = c.kind == 2 && c.a == land && rules[0] == 0;
            if (joins && isBound(pact, c.b, c.day, i, told)) return true;
            boolean comes = cameBy(land) == i;
            if (comes && isBound(pact, c.a, c.day, i, told) && byWords(pact, land, c.day, day, told)) return true;
        }
        return false;
    }

    private int ranked(Pact p, int day, int n) {
        for (int land = 1; land < landCount(); land++) {
            if (!there(land, n) || changes.get(cameBy(land)).a != p.land) continue;
            int one = land;
            boolean said = changes.subList(0, n).stream().anyMatch(c -> c.kind == 4 && c.a == one);
            int more = 0;
            for (int third = 0; third < 6; third++) {
                Voice counts = null;
                for (int d = 0; d <= day; d++) {
                    for (Voice v : voices) if (v.third == third && v.land == land && v.day == d) counts = v;
                }
                if (counts != null) more += counts.yes ? 1 : -1;
            }
            if (said && more > 0) return land;
        }
        return p.land;
    }

    private boolean byWords(int pact, int land, int came, int day, List<Word> told) {
        Word own = null;
        Word ofThird = null;
        int firstYes = NONE;
        for (int d = 0; d <= day; d++) {
            for (Word w : told) {
                if (w.pact != pact || w.land != land || w.day != d) continue;
                if (w.byThird) {
                    ofThird = w;
                } else {
                    own = w;
                    if (w.yes && firstYes == NONE) firstYes = d;
                }
            }
        }
        if (rules[0] == 0) return own == null || own.yes;
        return own != null && own.yes && firstYes <= came + rules[2] && (ofThird == null ? rules[1] == 1 : ofThird.yes);
    }

    int since(int pact, int land) {
        if (noPact(pact) || noLand(land)) return UNKNOWN;
        for (int day = 0; day < 1000; day++) if (isBound(pact, land, day, done(day), words)) return day;
        return NONE;
    }

    // ---- debts, things, pensions

    int debt(int land, int sum, int ground, int day) {
        if (noLand(land) || ground != NONE && noGround(ground)) return UNKNOWN;
        if (sum < 1 || sum > 9999 || noDay(day)) return OUTSIDE;
        if (!there(land, done(day)) || ground != NONE && owner(ground, done(day)) != land) return NOT;
        if (debts.size() == 8) return FULL;
        debts.add(new Debt(land, sum, ground, day));
        return debts.size() - 1;
    }

    int owes(int debt, int land, int day) {
        if (debt < 0 || debt >= debts.size() || noLand(land)) return UNKNOWN;
        return noDay(day) ? OUTSIDE : owes(debts.get(debt), land, day, rules[3]);
    }

    private int owes(Debt d, int land, int day, int share) {
        if (day < d.day) return 0;
        if (d.ground != NONE) return owner(d.ground, done(day)) == land ? d.sum : 0;
        return part(d.land, d.sum, done(d.day), land, done(day), share);
    }

    /** What a land has behind n changes of what another one had behind fewer of them. */
    private int part(int had, int amount, int from, int land, int n, int share) {
        if (n == from) return land == had ? amount : 0;
        Change c = changes.get(n - 1);
        int before = part(had, amount, from, land, n - 1, share);
        int ofA = part(had, amount, from, c.a, n - 1, share);
        if (c.kind == 2 && land == c.b) return 0;
        if (c.kind == 2 && land == c.a) return before + part(had, amount, from, c.b, n - 1, share);
        if (c.kind > 1) return before;
        int first = cut(ofA, c, n, share);
        if (land == c.first) return first;
        if (c.kind == 0) return land == c.a ? ofA - first : before;
        return land == c.a ? 0 : land == c.first + 1 ? ofA - first : before;
    }

    private int cut(int amount, Change c, int n, int share) {
        int all = held(c.a, n - 1);
        if (share == 0) return amount * heads(c.set) / heads(all);
        if (share == 1 && worth(all) != 0) return amount * worth(c.set) / worth(all);
        return amount / 2;
    }

    int thing(int kind, int many, int ground) {
        if (kind < 0 || kind > 2 || kind == 1 && (many < 1 || many > 9999)) return OUTSIDE;
        if (kind == 0 && noGround(ground)) return UNKNOWN;
        if (things.size() == 8) return FULL;
        things.add(new Thing(kind, many, ground));
        return things.size() - 1;
    }

    int owns(int thing, int land, int day) {
        if (thing < 0 || thing >= things.size() || noLand(land)) return UNKNOWN;
        return noDay(day) ? OUTSIDE : owns(things.get(thing), land, day, rules[3]);
    }

    private int owns(Thing t, int land, int day, int share) {
        if (t.kind == 0) return owner(t.ground, done(day)) == land ? 1 : 0;
        if (t.kind == 1) return part(0, t.many, 0, land, done(day), share);
        return abroad(done(day), share) == land ? 1 : 0;
    }

    private int abroad(int n, int share) {
        if (n == 0) return 0;
        Change c = changes.get(n - 1);
        int had = abroad(n - 1, share);
        if (c.kind == 2 && had == c.b) return c.a;
        if (c.kind > 1 || had != c.a) return had;
        int left = held(c.a, n - 1) & ~c.set;
        boolean equal = share == 2 || share == 1 && worth(held(c.a, n - 1)) == 0;
        int come = equal ? 1 : share == 0 ? heads(c.set) : worth(c.set);
        int rest = equal ? 1 : share == 0 ? heads(left) : worth(left);
        if (c.kind == 0) return come > rest ? c.first : c.a;
        return come < rest ? c.first + 1 : c.first;
    }

    int served(int land, int born, int lives) {
        if (noLand(land) || noGround(born) || noGround(lives)) return UNKNOWN;
        if (pensioners.size() == 12) return FULL;
        pensioners.add(new Pensioner(land, born, lives));
        return pensioners.size() - 1;
    }

    int paid(int pensioner, int day) {
        if (pensioner < 0 || pensioner >= pensioners.size()) return UNKNOWN;
        if (noDay(day)) return OUTSIDE;
        Pensioner p = pensioners.get(pensioner);
        if (rules[4] == 1) return owner(p.lives, done(day));
        if (rules[4] == 2) return owner(p.born, done(day));
        return heirBehind(p.land, done(day));
    }

    // ---- what hangs on what

    int hangs(int day, int what) {
        if (day < 1 || day > 999 || what != 0 && what != 1) return OUTSIDE;
        if (what == 0) return turns(day);
        int best = 1;
        for (int d = 2; d <= day; d++) if (turns(d) > turns(best)) best = d;
        return best;
    }

    private int turns(int day) {
        int turns = 0;
        for (int pact = 0; pact < pacts.size(); pact++) {
            for (int land = 0; land < landCount(); land++) {
                boolean ahead = isBound(pact, land, day - 1, done(day - 1), words);
                if (ahead != isBound(pact, land, day, done(day), words)) turns++;
            }
        }
        return turns;
    }

    int without(int pact, int land, int day, boolean bound) {
        if (noPact(pact) || noLand(land)) return UNKNOWN;
        if (noDay(day)) return OUTSIDE;
        int first = Math.min(10, words.size());
        for (int many = 0; many <= first; many++) {
            for (int out = 0; out < 1 << first; out++) {
                if (Integer.bitCount(out) != many) continue;
                List<Word> left = new ArrayList<>();
                for (int i = 0; i < words.size(); i++) if (i >= first || (out >> i & 1) == 0) left.add(words.get(i));
                if (isBound(pact, land, day, done(day), left) == bound) return out;
            }
        }
        return NONE;
    }

    private int rawBurden(int land, int day, int share) {
        int burden = 0;
        for (Debt d : debts) burden += owes(d, land, day, share);
        for (Thing t : things) if (t.kind != 0) burden -= owns(t, land, day, share);
        return burden;
    }

    int burden(int land, int day, int share) {
        if (noLand(land)) return UNKNOWN;
        return noDay(day) || share < 0 || share > 2 ? OUTSIDE : rawBurden(land, day, share) + 100000;
    }

    int best(int land, int day) {
        if (noLand(land)) return UNKNOWN;
        if (noDay(day)) return OUTSIDE;
        int heads = rawBurden(land, day, 0);
        int worth = rawBurden(land, day, 1);
        int equal = rawBurden(land, day, 2);
        int least = Math.min(heads, Math.min(worth, equal));
        return heads == least ? 0 : worth == least ? 1 : 2;
    }

    int count(int what) {
        int[] counts = {grounds.size(), landCount(), changes.size(), text.length(), pacts.size(), words.size(),
            voices.size(), debts.size(), things.size(), pensioners.size()};
        return what < 0 || what > 9 ? OUTSIDE : counts[what];
    }
}
