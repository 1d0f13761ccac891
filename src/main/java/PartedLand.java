import java.util.Arrays;

/** Grounds and the lands that have them, day by day, and what of pacts, debts, things and pensions follows them. */
public final class PartedLand {
    public static final int NONE = -1, UNKNOWN = -2, OUTSIDE = -3, NOT = -4, FULL = -5;

    private static final int LAST_DAY = 999, MOST_HEADS = 999, MOST_WORTH = 999, MOST_SUM = 9999;
    private static final int MOST_GROUNDS = 8, MOST_LANDS = 10, MOST_CHANGES = 12, MOST_BYTES = 160, MOST_LINES = 8;
    private static final int MOST_PACTS = 12, MOST_WORDS = 24, MOST_VOICES = 24, THIRDS = 6;
    private static final int MOST_DEBTS = 8, MOST_THINGS = 8, MOST_PENSIONERS = 12;
    private static final int PART = 0, FALL = 1, JOIN = 2, GIVE = 3, SAME = 4;
    private static final int OF_GROUND = 0, OF_RANK = 1, OF_TRADE = 2;
    private static final int FIXED = 0, MOVED = 1, ABROAD = 2;
    private static final int CLEAN = 0, SILENCE = 1, WITHIN = 2, SHARE = 3, PAY = 4, RULE_WORDS = 5, FIRST_WITHIN = 100;
    private static final int BY_HEADS = 0, BY_WORTH = 1, BY_EQUAL = 2;
    private static final int BY_SERVED = 0, BY_LIVES = 1;
    private static final int NO = 0, YES = 1;
    private static final int FIRST_WORDS = 10, BURDEN_ZERO = 100000;
    private static final int BLANK = ' ', SEMICOLON = ';';

    private final History history = new History();
    private final Text text = new Text();
    private final Words words = new Words();
    private final Voices voices = new Voices();
    private final Pacts pacts = new Pacts(history, text, words, voices);
    private final Goods goods = new Goods(history);
    private final Pensioners pensioners = new Pensioners();
    private final Days busyDays = new Days();

    public PartedLand() {
    }

    // ---- grounds, changes

    public int ground(int heads, int worth) {
        if (heads < 1 || heads > MOST_HEADS || worth < 0 || worth > MOST_WORTH) return OUTSIDE;
        if (history.changeCount > 0) return NOT;
        if (history.groundCount >= MOST_GROUNDS) return FULL;
        return history.addGround(heads, worth);
    }

    public int change(int kind, int day, int a, int b, int set) {
        if (kind < PART || kind > SAME || !mayChangeOn(day)) return OUTSIDE;
        int now = history.changeCount;
        boolean withOther = kind == JOIN || kind == GIVE;
        if (!history.isThere(a, now) || (withOther && !history.isThere(b, now))) return UNKNOWN;
        if (withOther && a == b) return NOT;
        if ((kind == PART || kind == FALL || kind == GIVE) && !history.isSomeNotAll(set, a)) return NOT;
        if (kind == SAME && history.parent[a] == NONE) return NOT;
        if (now >= MOST_CHANGES || history.landCount + landsThatCome(kind) > MOST_LANDS) return FULL;
        busyDays.mark(day);
        return history.addChange(kind, day, a, b, set);
    }

    public int lands(int day) {
        if (!isDay(day)) return OUTSIDE;
        return history.there[history.changesBy(day)];
    }

    public int has(int land, int day) {
        if (!history.knowsLand(land)) return UNKNOWN;
        if (!isDay(day)) return OUTSIDE;
        return history.held[history.changesBy(day)][land];
    }

    public int whose(int ground, int day) {
        if (!history.knowsGround(ground)) return UNKNOWN;
        if (!isDay(day)) return OUTSIDE;
        return history.ownerOf(ground, history.changesBy(day));
    }

    public int from(int land, int what) {
        if (!history.knowsLand(land)) return UNKNOWN;
        if (what == 0) return history.parent[land];
        if (what == 1) return history.cameOn[land];
        return OUTSIDE;
    }

    public int heir(int land, int day) {
        if (!history.knowsLand(land)) return UNKNOWN;
        if (!isDay(day)) return OUTSIDE;
        return history.heirOf(land, day);
    }

    // ---- rules

    public int write(long bytes, int n) {
        if (n < 1 || n > 8) return OUTSIDE;
        if (text.length + n > MOST_BYTES) return FULL;
        return text.append(bytes, n);
    }

    public int erase() {
        return text.empty();
    }

    public int fault() {
        return text.firstFault();
    }

    public int rules() {
        if (text.firstFault() != NONE) return NOT;
        return text.takeAsRules();
    }

    public int rule(int what) {
        if (what < 0 || what >= RULE_WORDS) return OUTSIDE;
        return text.rule[what];
    }

    // ---- pacts

    public int pact(int kind, int land, int third, int ground, int day) {
        if (!history.knowsLand(land) || !isThird(third)) return UNKNOWN;
        if (kind == OF_GROUND && !history.knowsGround(ground)) return UNKNOWN;
        if (kind < OF_GROUND || kind > OF_TRADE || !isDay(day)) return OUTSIDE;
        int done = history.changesBy(day);
        if (!history.isThere(land, done)) return NOT;
        if (kind == OF_GROUND && history.ownerOf(ground, done) != land) return NOT;
        if (pacts.pactCount >= MOST_PACTS) return FULL;
        busyDays.mark(day);
        return pacts.addPact(kind, land, kind == OF_GROUND ? ground : NONE, day);
    }

    public int word(int pact, int land, boolean byThird, boolean yes, int day) {
        if (!pacts.knowsPact(pact) || !history.knowsLand(land)) return UNKNOWN;
        if (!isDay(day)) return OUTSIDE;
        if (words.wordCount >= MOST_WORDS) return FULL;
        busyDays.mark(day);
        return words.addWord(pact, land, byThird, yes, day);
    }

    public int voice(int third, int land, boolean yes, int day) {
        if (!isThird(third) || !history.knowsLand(land)) return UNKNOWN;
        if (!isDay(day)) return OUTSIDE;
        if (voices.voiceCount >= MOST_VOICES) return FULL;
        busyDays.mark(day);
        return voices.addVoice(third, land, yes, day);
    }

    public int bound(int pact, int day) {
        if (!pacts.knowsPact(pact)) return UNKNOWN;
        if (!isDay(day)) return OUTSIDE;
        return pacts.boundOn(pact, day, 0);
    }

    public int since(int pact, int land) {
        if (!pacts.knowsPact(pact) || !history.knowsLand(land)) return UNKNOWN;
        for (int day = 0; day <= LAST_DAY; day++) {
            if (busyDays.isMarked(day) && isIn(pacts.boundOn(pact, day, 0), land)) return day;
        }
        return NONE;
    }

    // ---- debts, things, pensions

    public int debt(int land, int sum, int ground, int day) {
        if (!history.knowsLand(land)) return UNKNOWN;
        if (ground != NONE && !history.knowsGround(ground)) return UNKNOWN;
        if (sum < 1 || sum > MOST_SUM || !isDay(day)) return OUTSIDE;
        int done = history.changesBy(day);
        if (!history.isThere(land, done)) return NOT;
        if (ground != NONE && history.ownerOf(ground, done) != land) return NOT;
        if (goods.debtCount >= MOST_DEBTS) return FULL;
        return goods.addDebt(land, sum, ground, day);
    }

    public int owes(int debt, int land, int day) {
        if (!goods.knowsDebt(debt) || !history.knowsLand(land)) return UNKNOWN;
        if (!isDay(day)) return OUTSIDE;
        return goods.owedBy(debt, land, day, text.rule[SHARE]);
    }

    public int thing(int kind, int many, int ground) {
        if (kind < FIXED || kind > ABROAD) return OUTSIDE;
        if (kind == MOVED && (many < 1 || many > MOST_SUM)) return OUTSIDE;
        if (kind == FIXED && !history.knowsGround(ground)) return UNKNOWN;
        if (goods.thingCount >= MOST_THINGS) return FULL;
        return goods.addThing(kind, kind == MOVED ? many : 1, kind == FIXED ? ground : NONE);
    }

    public int owns(int thing, int land, int day) {
        if (!goods.knowsThing(thing) || !history.knowsLand(land)) return UNKNOWN;
        if (!isDay(day)) return OUTSIDE;
        return goods.ownedBy(thing, land, day, text.rule[SHARE]);
    }

    public int served(int land, int born, int lives) {
        if (!history.knowsLand(land) || !history.knowsGround(born) || !history.knowsGround(lives)) return UNKNOWN;
        if (pensioners.pensionerCount >= MOST_PENSIONERS) return FULL;
        return pensioners.addPensioner(land, born, lives);
    }

    public int paid(int pensioner, int day) {
        if (!pensioners.knowsPensioner(pensioner)) return UNKNOWN;
        if (!isDay(day)) return OUTSIDE;
        int pay = text.rule[PAY];
        if (pay == BY_SERVED) return history.heirOf(pensioners.land[pensioner], day);
        int place = pay == BY_LIVES ? pensioners.livesOn[pensioner] : pensioners.bornOn[pensioner];
        return history.ownerOf(place, history.changesBy(day));
    }

    // ---- what hangs on what

    public int hangs(int day, int what) {
        if (day < 1 || day > LAST_DAY || what < 0 || what > 1) return OUTSIDE;
        return what == 0 ? pacts.turnsOn(day) : pacts.dayOfMostTurns(day, busyDays);
    }

    public int without(int pact, int land, int day, boolean bound) {
        if (!pacts.knowsPact(pact) || !history.knowsLand(land)) return UNKNOWN;
        if (!isDay(day)) return OUTSIDE;
        return pacts.fewestLeftOut(pact, land, day, bound);
    }

    public int burden(int land, int day, int share) {
        if (!history.knowsLand(land)) return UNKNOWN;
        if (!isDay(day) || share < BY_HEADS || share > BY_EQUAL) return OUTSIDE;
        return BURDEN_ZERO + goods.burdenOf(land, day, share);
    }

    public int best(int land, int day) {
        if (!history.knowsLand(land)) return UNKNOWN;
        if (!isDay(day)) return OUTSIDE;
        int least = BY_HEADS;
        for (int share = BY_WORTH; share <= BY_EQUAL; share++) {
            if (goods.burdenOf(land, day, share) < goods.burdenOf(land, day, least)) least = share;
        }
        return least;
    }

    public int count(int what) {
        switch (what) {
            case 0: return history.groundCount;
            case 1: return history.landCount;
            case 2: return history.changeCount;
            case 3: return text.length;
            case 4: return pacts.pactCount;
            case 5: return words.wordCount;
            case 6: return voices.voiceCount;
            case 7: return goods.debtCount;
            case 8: return goods.thingCount;
            case 9: return pensioners.pensionerCount;
            default: return OUTSIDE;
        }
    }

    // ---- what several calls ask

    private boolean mayChangeOn(int day) {
        return isDay(day) && day >= history.latestDay() && day > pacts.latestDay && day > goods.latestDay;
    }

    private static int landsThatCome(int kind) {
        return kind == FALL ? 2 : kind == PART ? 1 : 0;
    }

    private static boolean isDay(int day) {
        return day >= 0 && day <= LAST_DAY;
    }

    private static boolean isThird(int third) {
        return third >= 0 && third < THIRDS;
    }

    private static boolean isIn(int bits, int number) {
        return (bits >> number & 1) != 0;
    }

    /** Days on which something was told that may turn who is bound: on all other days nobody's being bound turns. */
    private static final class Days {
        private final long[] marks = new long[(LAST_DAY + 64) / 64];

        void mark(int day) {
            marks[day >> 6] |= 1L << (day & 63);
        }

        boolean isMarked(int day) {
            return (marks[day >> 6] >> (day & 63) & 1L) != 0;
        }
    }

    /** Grounds, lands and changes. What stands behind each change is kept, so that no call does the changes again. */
    private static final class History {
        final int[] heads = new int[MOST_GROUNDS];
        final int[] worth = new int[MOST_GROUNDS];
        int groundCount = 0;

        final int[] parent = new int[MOST_LANDS];
        final int[] cameOn = new int[MOST_LANDS];
        private final int[] endedBy = new int[MOST_LANDS];
        int landCount = 1;

        final int[] kind = new int[MOST_CHANGES];
        final int[] day = new int[MOST_CHANGES];
        final int[] a = new int[MOST_CHANGES];
        final int[] b = new int[MOST_CHANGES];
        final int[] firstThatCame = new int[MOST_CHANGES];
        // grounds, by bits, of a land that parts or falls: those that the first new land has, and the others
        final int[] setOfFirst = new int[MOST_CHANGES];
        final int[] setOfOthers = new int[MOST_CHANGES];
        int changeCount = 0;

        // row and place n: behind the first n changes
        final int[][] held = new int[MOST_CHANGES + 1][MOST_LANDS];
        final int[] there = new int[MOST_CHANGES + 1];

        History() {
            parent[0] = NONE;
            endedBy[0] = NONE;
            there[0] = 1;
        }

        boolean knowsGround(int ground) {
            return ground >= 0 && ground < groundCount;
        }

        boolean knowsLand(int land) {
            return land >= 0 && land < landCount;
        }

        int addGround(int itsHeads, int itsWorth) {
            int ground = groundCount;
            heads[ground] = itsHeads;
            worth[ground] = itsWorth;
            held[0][0] |= 1 << ground;
            groundCount++;
            return ground;
        }

        int latestDay() {
            return changeCount == 0 ? 0 : day[changeCount - 1];
        }

        int changesBy(int lastDay) {
            int done = 0;
            while (done < changeCount && day[done] <= lastDay) done++;
            return done;
        }

        boolean isThere(int land, int done) {
            return knowsLand(land) && isIn(there[done], land);
        }

        int ownerOf(int ground, int done) {
            for (int land = 0; land < landCount; land++) {
                if (isIn(held[done][land], ground)) return land;
            }
            return NONE;
        }

        boolean isSomeNotAll(int set, int land) {
            int all = held[changeCount][land];
            return set != 0 && set != all && (set & ~all) == 0;
        }

        /** Answers the first land that comes, or a. */
        int addChange(int itsKind, int itsDay, int itsA, int itsB, int set) {
            int now = changeCount;
            int first = landCount;
            kind[now] = itsKind;
            day[now] = itsDay;
            a[now] = itsA;
            b[now] = itsB;
            firstThatCame[now] = first;
            setOfFirst[now] = set;
            setOfOthers[now] = held[now][itsA] & ~set;
            System.arraycopy(held[now], 0, held[now + 1], 0, MOST_LANDS);
            there[now + 1] = there[now];
            changeCount++;
            if (itsKind == PART) partOff(itsA, set);
            if (itsKind == FALL) fallApart(itsA, set);
            if (itsKind == JOIN) join(itsA, itsB);
            if (itsKind == GIVE) moveGrounds(itsA, itsB, set);
            return itsKind == PART || itsKind == FALL ? first : itsA;
        }

        private void partOff(int land, int set) {
            int first = landCount;
            comesOutOf(land);
            moveGrounds(land, first, set);
        }

        private void fallApart(int land, int set) {
            partOff(land, set);
            partOff(land, held[changeCount][land]);
            ends(land);
        }

        private void join(int land, int other) {
            moveGrounds(other, land, held[changeCount][other]);
            ends(other);
        }

        private void moveGrounds(int giver, int taker, int set) {
            int[] now = held[changeCount];
            now[giver] &= ~set;
            now[taker] |= set;
        }

        private void comesOutOf(int land) {
            parent[landCount] = land;
            cameOn[landCount] = latestDay();
            endedBy[landCount] = NONE;
            there[changeCount] |= 1 << landCount;
            landCount++;
        }

        private void ends(int land) {
            there[changeCount] &= ~(1 << land);
            endedBy[land] = changeCount - 1;
        }

        int heirOf(int land, int onDay) {
            if (cameOn[land] > onDay) return NONE;
            int done = changesBy(onDay);
            int heir = land;
            // each change ends one land at most
            for (int i = 0; i < done && !isIn(there[done], heir); i++) heir = nextHeir(heir);
            return heir;
        }

        private int nextHeir(int land) {
            int change = endedBy[land];
            if (change < 0) return land;
            if (kind[change] == JOIN) return a[change];
            int first = firstThatCame[change];
            return sumOf(heads, setOfFirst[change]) >= sumOf(heads, setOfOthers[change]) ? first : first + 1;
        }

        boolean saidSame(int land, int done) {
            for (int i = 0; i < done; i++) {
                if (kind[i] == SAME && a[i] == land) return true;
            }
            return false;
        }

        int sumOf(int[] numbers, int set) {
            int sum = 0;
            for (int ground = 0; ground < groundCount; ground++) {
                if ((set >> ground & 1) != 0) sum += numbers[ground];
            }
            return sum;
        }
    }

    /** The text, how it is read, and the rules that it last became. */
    private static final class Text {
        private final int[] bytes = new int[MOST_BYTES];
        int length = 0;
        final int[] rule = {0, 0, FIRST_WITHIN, 0, 0};

        // what reading finds: the token that begins at start and ends ahead of end, the lines, their rules
        private int start = 0;
        private int end = 0;
        private int lines = 0;
        private final int[] read = new int[RULE_WORDS];

        int append(long more, int n) {
            for (int i = 0; i < n; i++) bytes[length + i] = (int) (more >> (8 * i)) & 255;
            length += n;
            return length;
        }

        int empty() {
            int had = length;
            length = 0;
            return had;
        }

        /** Only behind a reading without fault. */
        int takeAsRules() {
            System.arraycopy(read, 0, rule, 0, RULE_WORDS);
            empty();
            return lines;
        }

        /** Reads the text: the place of its first fault, or NONE. */
        int firstFault() {
            Arrays.fill(read, 0);
            read[WITHIN] = FIRST_WITHIN;
            end = 0;
            for (int line = 1; line <= MOST_LINES; line++) {
                if (!readLine()) return start;
                lines = line;
                nextToken();
                if (start >= length) return NONE;
                if (bytes[start] != SEMICOLON) return start;
            }
            return start;
        }

        private boolean readLine() {
            nextToken();
            if (isWord("follow")) return put(CLEAN, 0);
            if (isWord("clean")) return put(CLEAN, 1);
            if (isWord("silence")) return readSilence();
            if (isWord("within")) return readNumber();
            if (isWord("share")) return readChoice(SHARE, "heads", "worth", "equal");
            if (isWord("pay")) return readChoice(PAY, "served", "lives", "born");
            return false;
        }

        private boolean put(int what, int value) {
            read[what] = value;
            return true;
        }

        private boolean readSilence() {
            nextToken();
            if (isWord("no")) return put(SILENCE, 0);
            if (isWord("yes")) return put(SILENCE, 1);
            return false;
        }

        private boolean readChoice(int what, String zero, String one, String two) {
            nextToken();
            if (isWord(zero)) return put(what, 0);
            if (isWord(one)) return put(what, 1);
            if (isWord(two)) return put(what, 2);
            return false;
        }

        private boolean readNumber() {
            nextToken();
            if (end <= start || end - start > 3 || !isDigit(bytes[start])) return false;
            int number = 0;
            for (int i = start; i < end; i++) number = number * 10 + bytes[i] - '0';
            return put(WITHIN, number);
        }

        /** At the end of the text the token is empty, and begins at its length. */
        private void nextToken() {
            start = end;
            while (start < length && bytes[start] == BLANK) start++;
            end = start;
            while (end < length && isLetter(bytes[end])) end++;
            if (end > start) return;
            while (end < length && isDigit(bytes[end])) end++;
            if (end == start && end < length) end++;
        }

        private static boolean isLetter(int sign) {
            return sign >= 'a' && sign <= 'z';
        }

        private static boolean isDigit(int sign) {
            return sign >= '0' && sign <= '9';
        }

        private boolean isWord(String word) {
            if (end - start != word.length()) return false;
            for (int i = 0; i < word.length(); i++) {
                if (bytes[start + i] != word.charAt(i)) return false;
            }
            return true;
        }
    }

    /** What lands and thirds say about pacts. */
    private static final class Words {
        private final int[] pact = new int[MOST_WORDS];
        private final int[] land = new int[MOST_WORDS];
        private final boolean[] byThird = new boolean[MOST_WORDS];
        private final boolean[] yes = new boolean[MOST_WORDS];
        private final int[] day = new int[MOST_WORDS];
        int wordCount = 0;

        int addWord(int itsPact, int itsLand, boolean isByThird, boolean isYes, int itsDay) {
            pact[wordCount] = itsPact;
            land[wordCount] = itsLand;
            byThird[wordCount] = isByThird;
            yes[wordCount] = isYes;
            day[wordCount] = itsDay;
            wordCount++;
            return wordCount;
        }

        /** YES, NO or NONE: the latest one up to a day, of those that are not left out. */
        int latest(int ofPact, int ofLand, boolean ofThird, int lastDay, int leftOut) {
            int latest = NONE;
            for (int i = 0; i < wordCount; i++) {
                if (pact[i] != ofPact || land[i] != ofLand || byThird[i] != ofThird) continue;
                if (day[i] > lastDay || (leftOut >> i & 1) != 0) continue;
                if (latest < 0 || day[i] >= day[latest]) latest = i;
            }
            if (latest < 0) return NONE;
            return yes[latest] ? YES : NO;
        }

        /** The day of a land's own first yes; behind all days, if there is none. */
        int firstYes(int ofPact, int ofLand, int leftOut) {
            int first = LAST_DAY + 1;
            for (int i = 0; i < wordCount; i++) {
                if (pact[i] != ofPact || land[i] != ofLand || byThird[i] || !yes[i]) continue;
                if ((leftOut >> i & 1) == 0 && day[i] < first) first = day[i];
            }
            return first;
        }

        /** Which of the first words, by bits, are about a pact. */
        int firstWordsAbout(int ofPact) {
            int bits = 0;
            for (int i = 0; i < wordCount && i < FIRST_WORDS; i++) {
                if (pact[i] == ofPact) bits |= 1 << i;
            }
            return bits;
        }
    }

    /** What thirds say of lands: whether one is the land out of which it came. */
    private static final class Voices {
        private final int[] third = new int[MOST_VOICES];
        private final int[] land = new int[MOST_VOICES];
        private final boolean[] yes = new boolean[MOST_VOICES];
        private final int[] day = new int[MOST_VOICES];
        int voiceCount = 0;

        int addVoice(int itsThird, int itsLand, boolean isYes, int itsDay) {
            third[voiceCount] = itsThird;
            land[voiceCount] = itsLand;
            yes[voiceCount] = isYes;
            day[voiceCount] = itsDay;
            voiceCount++;
            return voiceCount;
        }

        boolean moreYesThanNo(int ofLand, int lastDay) {
            int more = 0;
            for (int one = 0; one < THIRDS; one++) {
                int latest = latest(one, ofLand, lastDay);
                if (latest >= 0) more += yes[latest] ? 1 : -1;
            }
            return more > 0;
        }

        private int latest(int ofThird, int ofLand, int lastDay) {
            int latest = NONE;
            for (int i = 0; i < voiceCount; i++) {
                if (third[i] != ofThird || land[i] != ofLand || day[i] > lastDay) continue;
                if (latest < 0 || day[i] >= day[latest]) latest = i;
            }
            return latest;
        }
    }

    /** Pacts, and who is bound by them. */
    private static final class Pacts {
        private final History history;
        private final Text text;
        private final Words words;
        private final Voices voices;

        private final int[] kind = new int[MOST_PACTS];
        private final int[] signer = new int[MOST_PACTS];
        private final int[] place = new int[MOST_PACTS];
        private final int[] day = new int[MOST_PACTS];
        int pactCount = 0;
        int latestDay = NONE;

        // of a pact of trade: lands that came out of, or joined with, one that was bound
        private int cameOut = 0;
        private int joined = 0;
        private final int[] boundAhead = new int[MOST_PACTS];

        Pacts(History history, Text text, Words words, Voices voices) {
            this.history = history;
            this.text = text;
            this.words = words;
            this.voices = voices;
        }

        boolean knowsPact(int pact) {
            return pact >= 0 && pact < pactCount;
        }

        int addPact(int itsKind, int land, int ground, int itsDay) {
            int pact = pactCount;
            kind[pact] = itsKind;
            signer[pact] = land;
            place[pact] = ground;
            day[pact] = itsDay;
            latestDay = Math.max(latestDay, itsDay);
            pactCount++;
            return pact;
        }

        /** Lands that are bound, by bits, if some words are left out. */
        int boundOn(int pact, int onDay, int leftOut) {
            if (onDay < day[pact]) return 0;
            if (kind[pact] == OF_TRADE) return boundByTrade(pact, onDay, leftOut);
            int done = history.changesBy(onDay);
            int land = kind[pact] == OF_RANK ? boundByRank(pact, onDay, done) : history.ownerOf(place[pact], done);
            return history.isThere(land, done) ? 1 << land : 0;
        }

        private int boundByRank(int pact, int onDay, int done) {
            for (int land = 0; land < history.landCount; land++) {
                boolean claims = history.parent[land] == signer[pact] && history.isThere(land, done);
                if (claims && history.saidSame(land, done) && voices.moreYesThanNo(land, onDay)) return land;
            }
            return signer[pact];
        }

        private int boundByTrade(int pact, int onDay, int leftOut) {
            int done = history.changesBy(onDay);
            cameOut = 0;
            joined = 0;
            // the pact was signed behind the changes of its day: these hand nothing on
            for (int i = history.changesBy(day[pact]); i < done; i++) handOn(pact, i, leftOut);
            int bound = 0;
            for (int land = 0; land < history.landCount; land++) {
                if (history.isThere(land, done) && isHeld(pact, land, onDay, leftOut)) bound |= 1 << land;
            }
            return bound;
        }

        private void handOn(int pact, int change, int leftOut) {
            int kindOfChange = history.kind[change];
            int onDay = history.day[change];
            if (kindOfChange == PART || kindOfChange == FALL) {
                if (!isHeld(pact, history.a[change], onDay, leftOut)) return;
                cameOut |= (kindOfChange == PART ? 1 : 3) << history.firstThatCame[change];
            } else if (kindOfChange == JOIN && text.rule[CLEAN] == 0) {
                if (isHeld(pact, history.b[change], onDay, leftOut)) joined |= 1 << history.a[change];
            }
        }

        /** Whether a land that is there is bound by a pact of trade. */
        private boolean isHeld(int pact, int land, int onDay, int leftOut) {
            if (land == signer[pact] || isIn(joined, land)) return true;
            if (!isIn(cameOut, land)) return false;
            int own = words.latest(pact, land, false, onDay, leftOut);
            if (text.rule[CLEAN] == 0) return own != NO;
            if (own != YES) return false;
            if (words.firstYes(pact, land, leftOut) - history.cameOn[land] > text.rule[WITHIN]) return false;
            int ofThird = words.latest(pact, land, true, onDay, leftOut);
            return ofThird == YES || (ofThird == NONE && text.rule[SILENCE] == 1);
        }

        /** For how many pacts and lands being bound turns on a day. */
        int turnsOn(int onDay) {
            int turns = 0;
            for (int pact = 0; pact < pactCount; pact++) {
                turns += Integer.bitCount(boundOn(pact, onDay, 0) ^ boundOn(pact, onDay - 1, 0));
            }
            return turns;
        }

        int dayOfMostTurns(int lastDay, Days busyDays) {
            for (int pact = 0; pact < pactCount; pact++) boundAhead[pact] = boundOn(pact, 0, 0);
            int found = 1;
            int most = 0;
            for (int onDay = 1; onDay <= lastDay; onDay++) {
                if (!busyDays.isMarked(onDay)) continue;
                int turns = turnsSinceAhead(onDay);
                if (turns > most) {
                    most = turns;
                    found = onDay;
                }
            }
            return found;
        }

        private int turnsSinceAhead(int onDay) {
            int turns = 0;
            for (int pact = 0; pact < pactCount; pact++) {
                int bound = boundOn(pact, onDay, 0);
                turns += Integer.bitCount(bound ^ boundAhead[pact]);
                boundAhead[pact] = bound;
            }
            return turns;
        }

        int fewestLeftOut(int pact, int land, int onDay, boolean wantBound) {
            // a word about another pact would be one too many
            int about = words.firstWordsAbout(pact);
            int fewest = NONE;
            for (int out = 0; out < 1 << FIRST_WORDS; out++) {
                if ((out & ~about) != 0) continue;
                if (fewest >= 0 && Integer.bitCount(out) >= Integer.bitCount(fewest)) continue;
                if (isIn(boundOn(pact, onDay, out), land) == wantBound) fewest = out;
            }
            return fewest;
        }
    }

    /** Debts and things, and how changes divide them. */
    private static final class Goods {
        private final History history;

        private final int[] debtor = new int[MOST_DEBTS];
        private final int[] sum = new int[MOST_DEBTS];
        private final int[] debtPlace = new int[MOST_DEBTS];
        private final int[] day = new int[MOST_DEBTS];
        int debtCount = 0;
        int latestDay = NONE;

        private final int[] kind = new int[MOST_THINGS];
        private final int[] many = new int[MOST_THINGS];
        private final int[] thingPlace = new int[MOST_THINGS];
        int thingCount = 0;

        private final int[] amounts = new int[MOST_LANDS];

        Goods(History history) {
            this.history = history;
        }

        boolean knowsDebt(int debt) {
            return debt >= 0 && debt < debtCount;
        }

        boolean knowsThing(int thing) {
            return thing >= 0 && thing < thingCount;
        }

        int addDebt(int land, int itsSum, int ground, int itsDay) {
            int debt = debtCount;
            debtor[debt] = land;
            sum[debt] = itsSum;
            debtPlace[debt] = ground;
            day[debt] = itsDay;
            latestDay = Math.max(latestDay, itsDay);
            debtCount++;
            return debt;
        }

        int addThing(int itsKind, int itsMany, int ground) {
            int thing = thingCount;
            kind[thing] = itsKind;
            many[thing] = itsMany;
            thingPlace[thing] = ground;
            thingCount++;
            return thing;
        }

        int owedBy(int debt, int land, int onDay, int share) {
            if (onDay < day[debt]) return 0;
            int done = history.changesBy(onDay);
            if (debtPlace[debt] != NONE) return history.ownerOf(debtPlace[debt], done) == land ? sum[debt] : 0;
            divide(debtor[debt], sum[debt], history.changesBy(day[debt]), done, share);
            return amounts[land];
        }

        int ownedBy(int thing, int land, int onDay, int share) {
            int done = history.changesBy(onDay);
            if (kind[thing] == FIXED) return history.ownerOf(thingPlace[thing], done) == land ? 1 : 0;
            if (kind[thing] == ABROAD) return ownerAbroad(done, share) == land ? 1 : 0;
            divide(0, many[thing], 0, done, share);
            return amounts[land];
        }

        int burdenOf(int land, int onDay, int share) {
            int burden = 0;
            for (int debt = 0; debt < debtCount; debt++) burden += owedBy(debt, land, onDay, share);
            for (int thing = 0; thing < thingCount; thing++) {
                if (kind[thing] != FIXED) burden -= ownedBy(thing, land, onDay, share);
            }
            return burden;
        }

        /** What each land has of an amount that a land had ahead of some changes, behind these. */
        private void divide(int land, int amount, int firstChange, int done, int share) {
            Arrays.fill(amounts, 0);
            amounts[land] = amount;
            for (int i = firstChange; i < done; i++) divideAt(i, share);
        }

        private void divideAt(int change, int share) {
            int a = history.a[change];
            int b = history.b[change];
            int first = history.firstThatCame[change];
            switch (history.kind[change]) {
                case PART:
                    amounts[first] = partOfFirst(amounts[a], change, share);
                    amounts[a] -= amounts[first];
                    break;
                case FALL:
                    amounts[first] = partOfFirst(amounts[a], change, share);
                    amounts[first + 1] = amounts[a] - amounts[first];
                    amounts[a] = 0;
                    break;
                case JOIN:
                    amounts[a] += amounts[b];
                    amounts[b] = 0;
                    break;
                default:
                    break;
            }
        }

        private int partOfFirst(int amount, int change, int share) {
            int key = key(history.setOfFirst[change], change, share);
            int both = key + key(history.setOfOthers[change], change, share);
            return both <= 0 ? 0 : amount * key / both;
        }

        private int ownerAbroad(int done, int share) {
            int owner = 0;
            for (int i = 0; i < done; i++) {
                if (history.kind[i] == JOIN && history.b[i] == owner) owner = history.a[i];
                else if (history.a[i] == owner) owner = ownerAbroadBehind(i, share);
            }
            return owner;
        }

        private int ownerAbroadBehind(int change, int share) {
            int owner = history.a[change];
            int first = history.firstThatCame[change];
            int kindOfChange = history.kind[change];
            if (kindOfChange != PART && kindOfChange != FALL) return owner;
            int more = key(history.setOfFirst[change], change, share) - key(history.setOfOthers[change], change, share);
            if (kindOfChange == PART) return more > 0 ? first : owner;
            return more >= 0 ? first : first + 1;
        }

        /** Of some grounds of a land that parts or falls. */
        private int key(int set, int change, int share) {
            if (share == BY_HEADS) return history.sumOf(history.heads, set);
            int all = history.setOfFirst[change] | history.setOfOthers[change];
            if (share == BY_EQUAL || history.sumOf(history.worth, all) == 0) return 1;
            return history.sumOf(history.worth, set);
        }
    }

    /** Whom lands owe a pension. */
    private static final class Pensioners {
        final int[] land = new int[MOST_PENSIONERS];
        final int[] bornOn = new int[MOST_PENSIONERS];
        final int[] livesOn = new int[MOST_PENSIONERS];
        int pensionerCount = 0;

        boolean knowsPensioner(int pensioner) {
            return pensioner >= 0 && pensioner < pensionerCount;
        }

        int addPensioner(int itsLand, int born, int lives) {
            int pensioner = pensionerCount;
            land[pensioner] = itsLand;
            bornOn[pensioner] = born;
            livesOn[pensioner] = lives;
            pensionerCount++;
            return pensioner;
        }
    }
}
