/** The boundaries of PACTS, WORDS and VOICES: the document's Terms, part 2, and promises 14 to 18. */
public final class PactsEdgeTest extends Edges {
    public static void main(String[] args) {
        twelvePacts();
        kinds();
        thirds();
        landIsThere();
        groundThatItHas();
        manyWords();
        manyVoices();
        latestOwnWord();
        latestWordOfTheThird();
        latestVoice();
        latestIsToldFirst();
        fromTheDayOn();
        landsThatAreThere();
        byGround();
        rankAtFirst();
        rankSaidSame();
        rankMoreThirds();
        rankOfSeveral();
        rankSignerNoMore();
        rankCameOutOfIt();
        tradeSigner();
        tradeByJoin();
        tradeFollow();
        tradeClean();
        tradeWithin();
        tradeWithinOnDays();
        tradeFirstYes();
        tradeThird();
        boundWhenOnTheDay();
        boundWhenByChangesAhead();
        signedBehindChanges();
        pact();
        pactNotLookedAt();
        word();
        voice();
        bound();
        since();
        sinceByDays();
        due.end();
    }

    // ---- Terms, part 2

    private static void twelvePacts() {
        due.sentence("PACTS are 12 at most");
        PartedLand x = alike(4);
        due.each("none yet", noneOf(0), p -> x.bound(p, 0), UNKNOWN);
        for (int many = 0; many < 12; many++) {
            due.is("how many", x.count(4), many);
            due.is("one more", x.pact(many % 3, 0, 0, 0, many), many);
            due.is("bound by it", x.bound(many, many), 1);
            due.each("none of them", noneOf(many + 1), p -> x.bound(p, 0), UNKNOWN);
        }
        for (int kind = OF_GROUND; kind <= OF_TRADE; kind++) due.is("thirteenth", x.pact(kind, 0, 0, 0, 0), FULL);
        due.is("twelve", x.count(4), 12);
        due.is("the twelfth", x.since(11, 0), 11);
        due.is("no thirteenth", x.bound(12, 999), UNKNOWN);
    }

    private static void kinds() {
        due.sentence("each of a KIND (0 of a ground, 1 of rank, 2 of trade)");
        PartedLand x = alike(2);
        due.each("no kind", noneOf(3), kind -> x.pact(kind, 0, 0, 0, 0), OUTSIDE);
        for (int kind = 0; kind < 3; kind++) due.is("kind " + kind, x.pact(kind, 0, 0, 1, 0), kind);
        due.each("no kind", noneOf(3), kind -> x.pact(kind, 0, 0, 0, 0), OUTSIDE);
        change(x, PART, 1, 0, 0, bits(1));
        due.is("of a ground", x.bound(0, 1), bits(1));
        due.is("of rank", x.bound(1, 1), bits(0));
        due.is("of trade", x.bound(2, 1), bits(0, 1));
    }

    private static void thirds() {
        due.sentence("signed by a LAND with one of THIRDS (0 .. 5)");
        PartedLand x = alike(2);
        due.each("no third", noneOf(6), third -> x.pact(OF_RANK, 0, third, 0, 0), UNKNOWN);
        due.each("no third", noneOf(6), third -> x.voice(third, 0, true, 0), UNKNOWN);
        for (int third = 0; third < 6; third++) {
            due.is("third " + third, x.pact(OF_RANK, 0, third, 0, 0), third);
            due.is("voice of third " + third, x.voice(third, 0, true, 0), third + 1);
        }
    }

    private static void landIsThere() {
        due.sentence("on a DAY on which it is there");
        PartedLand x = alike(6);
        change(x, PART, 5, 0, 0, bits(0, 1));
        change(x, JOIN, 9, 0, 1, 0);
        change(x, FALL, 20, 0, 0, bits(0));
        due.is("a day ahead of its coming", x.pact(OF_TRADE, 1, 0, 0, 4), NOT);
        due.is("the day of its coming", x.pact(OF_TRADE, 1, 0, 0, 5), 0);
        due.is("a day ahead of its end", x.pact(OF_RANK, 1, 0, 0, 8), 1);
        due.is("the day of its end", x.pact(OF_TRADE, 1, 0, 0, 9), NOT);
        due.is("the last day", x.pact(OF_TRADE, 1, 0, 0, 999), NOT);
        due.is("day 0", x.pact(OF_TRADE, 0, 0, 0, 0), 2);
        due.is("a day ahead of the fall", x.pact(OF_TRADE, 0, 0, 0, 19), 3);
        due.is("the day of the fall", x.pact(OF_TRADE, 0, 0, 0, 20), NOT);
        due.is("a day ahead, who came by it", x.pact(OF_TRADE, 3, 0, 0, 19), NOT);
        due.is("the day, who came by it", x.pact(OF_TRADE, 3, 0, 0, 20), 4);
    }

    private static void groundThatItHas() {
        due.sentence("that of a ground is of a GROUND that it has then");
        PartedLand x = alike(4);
        change(x, PART, 5, 0, 0, bits(3));
        due.is("a day ahead", x.pact(OF_GROUND, 0, 0, 3, 4), 0);
        due.is("no more on that day", x.pact(OF_GROUND, 0, 0, 3, 5), NOT);
        due.is("the new land on that day", x.pact(OF_GROUND, 1, 0, 3, 5), 1);
        due.is("the new land a day ahead", x.pact(OF_GROUND, 1, 0, 3, 4), NOT);
        due.is("another one's", x.pact(OF_GROUND, 1, 0, 0, 5), NOT);
        due.is("rank needs no ground", x.pact(OF_RANK, 1, 0, 0, 5), 2);
        due.each("no ground", noneOf(4), g -> x.pact(OF_GROUND, 0, 0, g, 0), UNKNOWN);
        PartedLand none = new PartedLand();
        due.is("no grounds at all", none.pact(OF_GROUND, 0, 0, 0, 0), UNKNOWN);
        due.is("rank", none.pact(OF_RANK, 0, 0, 0, 0), 0);
    }

    private static void manyWords() {
        due.sentence("WORDS are 24 at most");
        PartedLand x = alike(2);
        pact(x, OF_TRADE, 0, 0, 0);
        change(x, PART, 1, 0, 0, bits(1));
        for (int many = 1; many < 24; many++) due.is("one more", x.word(0, 1, false, true, 1), many);
        due.is("as yet", x.bound(0, 1), bits(0, 1));
        due.is("the last one", x.word(0, 1, false, false, 1), 24);
        due.is("counts", x.bound(0, 1), bits(0));
        due.is("one too many", x.word(0, 1, false, true, 1), FULL);
        due.is("does not count", x.bound(0, 1), bits(0));
        due.is("of the third", x.word(0, 1, true, true, 0), FULL);
        due.is("how many", x.count(5), 24);
    }

    private static void manyVoices() {
        due.sentence("VOICES are 24 at most");
        PartedLand x = alike(2);
        pact(x, OF_RANK, 0, 0, 0);
        change(x, PART, 1, 0, 0, bits(1));
        change(x, SAME, 1, 1, 0, 0);
        for (int many = 1; many < 24; many++) due.is("one more", x.voice(5, 1, false, 1), many);
        due.is("as yet", x.bound(0, 1), bits(0));
        due.is("the last one", x.voice(5, 1, true, 1), 24);
        due.is("counts", x.bound(0, 1), bits(1));
        due.is("one too many", x.voice(5, 1, false, 1), FULL);
        due.is("does not count", x.bound(0, 1), bits(1));
        due.is("how many", x.count(6), 24);
    }

    private static void latestOwnWord() {
        due.sentence("On a DAY the latest of DAYS up to it counts (of several of one DAY that told last)");
        PartedLand x = alike(2);
        pact(x, OF_TRADE, 0, 0, 0);
        change(x, PART, 5, 0, 0, bits(1));
        says(x, 1, false, 20);
        due.is("a day ahead of it", x.bound(0, 19), bits(0, 1));
        due.is("on it", x.bound(0, 20), bits(0));
        says(x, 1, true, 20);
        due.is("yes told last", x.bound(0, 20), bits(0, 1));
        says(x, 1, false, 20);
        due.is("no told last", x.bound(0, 20), bits(0));
        says(x, 1, true, 19);
        due.is("told last, but of a day ahead", x.bound(0, 20), bits(0));
        says(x, 1, true, 21);
        says(x, 1, false, 10);
        due.is("told last, but of a day long ahead", x.bound(0, 21), bits(0, 1));
        due.is("on that day", x.bound(0, 10), bits(0));
        due.is("on and on", x.bound(0, 18), bits(0));
        due.is("up to the yes", x.bound(0, 19), bits(0, 1));
        says(x, 1, false, 999);
        due.is("a day ahead of the last", x.bound(0, 998), bits(0, 1));
        due.is("the last day", x.bound(0, 999), bits(0));
        says(x, 1, false, 0);
        due.is("on day 0, ahead of its coming", x.bound(0, 9), bits(0));
    }

    private static void latestWordOfTheThird() {
        due.sentence("On a DAY the latest of DAYS up to it counts (of several of one DAY that told last)");
        PartedLand x = rules(alike(2), "clean");
        pact(x, OF_TRADE, 0, 0, 0);
        change(x, PART, 5, 0, 0, bits(1));
        says(x, 1, true, 5);
        thirdSays(x, 1, true, 20);
        due.is("a day ahead of it", x.bound(0, 19), bits(0));
        due.is("on it", x.bound(0, 20), bits(0, 1));
        thirdSays(x, 1, false, 20);
        due.is("no told last", x.bound(0, 20), bits(0));
        thirdSays(x, 1, true, 20);
        due.is("yes told last", x.bound(0, 20), bits(0, 1));
        thirdSays(x, 1, false, 19);
        due.is("told last, but of a day ahead", x.bound(0, 20), bits(0, 1));
        due.is("on that day", x.bound(0, 19), bits(0));
    }

    private static void latestVoice() {
        due.sentence("On a DAY the latest of DAYS up to it counts (of several of one DAY that told last)");
        PartedLand x = alike(2);
        pact(x, OF_RANK, 0, 0, 0);
        change(x, PART, 5, 0, 0, bits(1));
        change(x, SAME, 5, 1, 0, 0);
        voice(x, 3, 1, true, 20);
        due.is("a day ahead of it", x.bound(0, 19), bits(0));
        due.is("on it", x.bound(0, 20), bits(1));
        voice(x, 3, 1, false, 20);
        due.is("no told last", x.bound(0, 20), bits(0));
        voice(x, 3, 1, true, 20);
        due.is("yes told last", x.bound(0, 20), bits(1));
        voice(x, 3, 1, false, 19);
        due.is("told last, but of a day ahead", x.bound(0, 20), bits(1));
        voice(x, 3, 1, true, 0);
        due.is("of day 0", x.bound(0, 5), bits(1));
        due.is("no longer", x.bound(0, 19), bits(0));
        voice(x, 3, 1, false, 999);
        due.is("a day ahead of the last", x.bound(0, 998), bits(1));
        due.is("the last day", x.bound(0, 999), bits(0));
    }

    private static void latestIsToldFirst() {
        due.sentence("On a DAY the latest of DAYS up to it counts");
        PartedLand x = alike(2);
        pact(x, OF_TRADE, 0, 0, 0);
        change(x, PART, 5, 0, 0, bits(1));
        change(x, SAME, 5, 1, 0, 0);
        pact(x, OF_RANK, 0, 0, 0);
        says(x, 1, false, 20);
        says(x, 1, true, 19);
        due.is("the first word is the latest", x.bound(0, 20), bits(0));
        due.is("not a day ahead", x.bound(0, 19), bits(0, 1));
        voice(x, 4, 1, true, 20);
        voice(x, 4, 1, false, 19);
        due.is("the first voice is the latest", x.bound(1, 20), bits(1));
        due.is("not a day ahead", x.bound(1, 19), bits(0));
        PartedLand y = rules(alike(2), "clean");
        pact(y, OF_TRADE, 0, 0, 0);
        change(y, PART, 5, 0, 0, bits(1));
        thirdSays(y, 1, false, 20);
        thirdSays(y, 1, true, 19);
        says(y, 1, true, 6);
        due.is("the third's first word is the latest", y.bound(0, 20), bits(0));
        due.is("not a day ahead", y.bound(0, 19), bits(0, 1));
    }

    private static void fromTheDayOn() {
        due.sentence("BOUND by a PACT on a DAY, from that on which it was signed on");
        for (int kind = OF_GROUND; kind <= OF_TRADE; kind++) {
            PartedLand x = alike(2);
            for (int day : new int[] {0, 500, 999}) {
                int p = x.pact(kind, 0, 0, 0, day);
                if (day > 0) due.is("a day ahead, kind " + kind, x.bound(p, day - 1), 0);
                if (day > 0) due.is("on day 0, kind " + kind, x.bound(p, 0), 0);
                due.is("on it, kind " + kind, x.bound(p, day), bits(0));
                due.is("on the last day, kind " + kind, x.bound(p, 999), bits(0));
            }
        }
        PartedLand y = alike(2);
        pact(y, OF_RANK, 0, 0, 0);
        change(y, PART, 1, 0, 0, bits(1));
        change(y, SAME, 1, 1, 0, 0);
        voice(y, 0, 1, true, 1);
        pact(y, OF_RANK, 0, 0, 9);
        due.is("rank by same, a day ahead", y.bound(1, 8), 0);
        due.is("rank by same, on it", y.bound(1, 9), bits(1));
    }

    private static void landsThatAreThere() {
        due.sentence("are LANDS that are there");
        PartedLand x = alike(4);
        pact(x, OF_TRADE, 0, 0, 0);
        pact(x, OF_RANK, 0, 0, 0);
        change(x, PART, 5, 0, 0, bits(0, 1));
        due.is("not there yet", x.bound(0, 4), bits(0));
        due.is("there", x.bound(0, 5), bits(0, 1));
        change(x, JOIN, 9, 1, 0, 0);
        due.is("both, a day ahead", x.bound(0, 8), bits(0, 1));
        due.is("who signed is no more", x.bound(0, 9), bits(1));
        due.is("rank, a day ahead", x.bound(1, 8), bits(0));
        due.is("rank, who signed is no more", x.bound(1, 9), 0);
        change(x, FALL, 12, 1, 0, bits(3));
        due.is("who came out of one that is no more", x.bound(0, 12), bits(2, 3));
        due.is("for all days", x.bound(0, 999), bits(2, 3));
    }

    private static void byGround() {
        due.sentence("ground: who has the GROUND.");
        PartedLand x = alike(4);
        pact(x, OF_GROUND, 0, 2, 0);
        change(x, PART, 5, 0, 0, bits(2));
        change(x, GIVE, 6, 0, 1, bits(3));
        change(x, GIVE, 7, 1, 0, bits(2));
        change(x, FALL, 8, 0, 0, bits(2));
        change(x, JOIN, 9, 3, 2, 0);
        for (int i = 0; i < 12; i++) says(x, i % 4, false, 5 + i % 5);
        int[] want = {0, 1, 1, 0, 2, 3};
        for (int day = 4; day < 10; day++) due.is("on day " + day, x.bound(0, day), bits(want[day - 4]));
        due.is("on the last day", x.bound(0, 999), bits(3));
    }

    private static void rankAtFirst() {
        due.sentence("Rank: who signed it");
        PartedLand x = alike(4);
        pact(x, OF_RANK, 0, 0, 0);
        change(x, PART, 5, 0, 0, bits(2));
        change(x, PART, 5, 0, 0, bits(3));
        due.is("nobody said same", x.bound(0, 5), bits(0));
        for (int third = 0; third < 6; third++) voice(x, third, 1, true, 5);
        due.is("all say yes, nobody said same", x.bound(0, 5), bits(0));
        says(x, 0, false, 5);
        due.is("words don't matter", x.bound(0, 5), bits(0));
        change(x, SAME, 6, 2, 0, 0);
        due.is("said same, nobody says yes", x.bound(0, 6), bits(0));
    }

    private static void rankSaidSame() {
        due.sentence("said SAME, on that DAY or ahead");
        PartedLand x = alike(4);
        pact(x, OF_RANK, 0, 0, 0);
        change(x, PART, 5, 0, 0, bits(2));
        voice(x, 0, 1, true, 0);
        change(x, SAME, 9, 1, 0, 0);
        due.is("a day ahead of it", x.bound(0, 8), bits(0));
        due.is("on that day", x.bound(0, 9), bits(1));
        due.is("on the last day", x.bound(0, 999), bits(1));
        change(x, SAME, 12, 1, 0, 0);
        due.is("the first time counts", x.bound(0, 10), bits(1));
        pact(x, OF_RANK, 0, 0, 20);
        due.is("said ahead of the pact", x.bound(1, 20), bits(1));
    }

    private static void rankMoreThirds() {
        due.sentence("more THIRDS say yes of it than no");
        for (int yes = 0; yes <= 6; yes++) {
            for (int no = 0; yes + no <= 6; no++) {
                PartedLand x = alike(2);
                pact(x, OF_RANK, 0, 0, 0);
                change(x, PART, 5, 0, 0, bits(1));
                change(x, SAME, 5, 1, 0, 0);
                for (int third = 0; third < yes; third++) voice(x, third, 1, true, 5);
                for (int third = 5; third > 5 - no; third--) voice(x, third, 1, false, 5);
                due.is(yes + " yes, " + no + " no", x.bound(0, 5), yes > no ? bits(1) : bits(0));
            }
        }
        PartedLand y = alike(2);
        pact(y, OF_RANK, 0, 0, 0);
        change(y, PART, 5, 0, 0, bits(1));
        change(y, SAME, 5, 1, 0, 0);
        for (int i = 0; i < 4; i++) voice(y, 0, 1, true, i);
        voice(y, 1, 1, false, 5);
        due.is("one third's many voices are one", y.bound(0, 5), bits(0));
    }

    private static void rankOfSeveral() {
        due.sentence("this one instead (of several the least;");
        PartedLand x = alike(4);
        pact(x, OF_RANK, 0, 0, 0);
        for (int land = 1; land < 4; land++) change(x, PART, 5, 0, 0, bits(land));
        for (int land = 3; land > 0; land--) change(x, SAME, 9 - land, land, 0, 0);
        voice(x, 0, 1, true, 8);
        voice(x, 0, 2, true, 7);
        voice(x, 1, 2, true, 7);
        voice(x, 0, 3, true, 0);
        due.is("one", x.bound(0, 6), bits(3));
        due.is("of two", x.bound(0, 7), bits(2));
        due.is("of three", x.bound(0, 8), bits(1));
        voice(x, 0, 1, false, 9);
        due.is("of two again", x.bound(0, 9), bits(2));
        change(x, JOIN, 20, 0, 2, 0);
        due.is("one again", x.bound(0, 20), bits(3));
        change(x, JOIN, 21, 0, 3, 0);
        due.is("who signed", x.bound(0, 21), bits(0));
        int[] want = {3, 2, 1, 2, 3, 0};
        int[] days = {6, 7, 8, 19, 20, 21};
        for (int i = 0; i < 6; i++) due.is("who was there on day " + days[i], x.bound(0, days[i]), bits(want[i]));
    }

    private static void rankSignerNoMore() {
        due.sentence("also if who signed is no more)");
        PartedLand x = alike(4);
        pact(x, OF_RANK, 0, 0, 0);
        change(x, FALL, 5, 0, 0, bits(0));
        due.is("a day ahead", x.bound(0, 4), bits(0));
        due.is("nobody", x.bound(0, 5), 0);
        change(x, SAME, 6, 2, 0, 0);
        voice(x, 0, 2, true, 6);
        due.is("the one that said same", x.bound(0, 6), bits(2));
        change(x, JOIN, 7, 1, 2, 0);
        due.is("is no more itself", x.bound(0, 7), 0);
    }

    private static void rankCameOutOfIt() {
        due.sentence("but when a LAND that came out of it said SAME");
        PartedLand x = alike(4);
        pact(x, OF_RANK, 0, 0, 0);
        change(x, PART, 5, 0, 0, bits(0, 1));
        change(x, PART, 5, 1, 0, bits(0));
        change(x, SAME, 5, 2, 0, 0);
        voice(x, 0, 2, true, 5);
        due.is("came out of one that came out of it", x.bound(0, 5), bits(0));
        pact(x, OF_RANK, 1, 0, 5);
        due.is("came out of it", x.bound(1, 5), bits(2));
        pact(x, OF_RANK, 2, 0, 5);
        due.is("is who signed", x.bound(2, 5), bits(2));
    }

    private static void tradeSigner() {
        due.sentence("Trade: who signed it;");
        PartedLand x = alike(4);
        pact(x, OF_TRADE, 0, 0, 3);
        for (int day = 0; day < 6; day++) says(x, 0, false, day);
        thirdSays(x, 0, false, 3);
        due.is("whatever the words", x.bound(0, 3), bits(0));
        due.is("not ahead", x.bound(0, 2), 0);
        rules(x, "clean;within 0");
        due.is("whatever the rules", x.bound(0, 999), bits(0));
        change(x, FALL, 9, 0, 0, bits(0));
        due.is("nobody, with clean", x.bound(0, 9), 0);
    }

    private static void tradeByJoin() {
        due.sentence("a LAND by JOIN with one that was BOUND when it joined, if THE RULES are follow;");
        PartedLand x = alike(4);
        change(x, PART, 1, 0, 0, bits(0));
        change(x, PART, 1, 0, 0, bits(1));
        pact(x, OF_TRADE, 0, 0, 1);
        due.is("not ahead of it", x.bound(0, 1), bits(0));
        change(x, JOIN, 5, 1, 0, 0);
        change(x, JOIN, 5, 2, 1, 0);
        due.is("a day ahead", x.bound(0, 4), bits(0));
        due.is("one behind the other on that day", x.bound(0, 5), bits(2));
        says(x, 2, false, 5);
        due.is("its no does not matter", x.bound(0, 5), bits(2));
        for (String silence : new String[] {"silence yes", "silence no"}) {
            rules(x, "clean;" + silence);
            due.is("not with clean, " + silence, x.bound(0, 5), 0);
            rules(x, "follow;" + silence);
            due.is("with follow again, " + silence, x.bound(0, 5), bits(2));
        }
        PartedLand y = alike(4);
        change(y, PART, 1, 0, 0, bits(0));
        pact(y, OF_TRADE, 0, 0, 1);
        change(y, JOIN, 5, 0, 1, 0);
        due.is("who signed takes one in", y.bound(0, 5), bits(0));
        PartedLand z = alike(4);
        change(z, PART, 1, 0, 0, bits(0));
        change(z, PART, 1, 0, 0, bits(1));
        pact(z, OF_TRADE, 0, 0, 1);
        change(z, JOIN, 5, 1, 2, 0);
        due.is("two that were not", z.bound(0, 5), bits(0));
    }

    private static void tradeFollow() {
        due.sentence("with follow, unless its latest word is no;");
        PartedLand x = alike(4);
        pact(x, OF_TRADE, 0, 0, 0);
        pact(x, OF_TRADE, 0, 0, 0);
        change(x, PART, 5, 0, 0, bits(0));
        change(x, FALL, 6, 0, 0, bits(1));
        due.is("no words", x.bound(0, 6), bits(1, 2, 3));
        thirdSays(x, 1, false, 6);
        due.is("the third's no", x.bound(0, 6), bits(1, 2, 3));
        says(x, 1, true, 6);
        due.is("yes", x.bound(0, 6), bits(1, 2, 3));
        says(x, 1, false, 6);
        due.is("no", x.bound(0, 6), bits(2, 3));
        due.is("not by the other pact", x.bound(1, 6), bits(1, 2, 3));
        says(x, 2, false, 7);
        says(x, 3, false, 8);
        due.is("another one's no", x.bound(0, 7), bits(3));
        due.is("the other one's, too", x.bound(0, 8), 0);
        due.is("a day ahead of its no", x.bound(0, 5), bits(0, 1));
    }

    private static void tradeClean() {
        due.sentence("with clean, if its latest word is yes,");
        PartedLand x = alike(4);
        pact(x, OF_TRADE, 0, 0, 0);
        change(x, FALL, 5, 0, 0, bits(0));
        rules(x, "clean;silence yes");
        due.is("no words", x.bound(0, 5), 0);
        thirdSays(x, 1, true, 5);
        due.is("the third's yes alone", x.bound(0, 5), 0);
        says(x, 1, true, 5);
        due.is("yes on the day on which it came", x.bound(0, 5), bits(1));
        says(x, 2, true, 7);
        due.is("a day ahead of the other one's", x.bound(0, 6), bits(1));
        due.is("on it", x.bound(0, 7), bits(1, 2));
        says(x, 2, false, 7);
        due.is("no told last", x.bound(0, 7), bits(1));
        says(x, 2, true, 999);
        due.is("yes on the last day, the first one in time", x.bound(0, 999), bits(1, 2));
        due.is("a day ahead", x.bound(0, 998), bits(1));
    }

    private static void tradeWithin() {
        due.sentence("its first yes was said at most so many DAYS (within) behind that on which it came");
        int[] within = {0, 1, 2, 99, 100, 101, 998, 999};
        for (int days : within) {
            PartedLand x = alike(3);
            pact(x, OF_TRADE, 0, 0, 0);
            change(x, PART, 1, 0, 0, bits(1));
            change(x, PART, 1, 0, 0, bits(2));
            rules(x, "clean;silence yes;within " + days);
            if (1 + days <= 999) says(x, 1, true, 1 + days);
            if (2 + days <= 999) says(x, 2, true, 2 + days);
            int want = bits(0) | (1 + days <= 999 ? bits(1) : 0);
            due.is("within " + days, x.bound(0, 999), want);
        }
        PartedLand z = alike(2);
        pact(z, OF_TRADE, 0, 0, 0);
        change(z, PART, 1, 0, 0, bits(1));
        rules(z, "clean;silence yes");
        says(z, 1, true, 102);
        due.is("101 days, within 100 as at first", z.bound(0, 999), bits(0));
        says(z, 1, true, 101);
        due.is("100 days, within 100 as at first", z.bound(0, 999), bits(0, 1));
    }

    private static void tradeWithinOnDays() {
        due.sentence("at most so many DAYS (within) behind that on which it came");
        PartedLand x = alike(4);
        pact(x, OF_TRADE, 0, 0, 0);
        change(x, PART, 1, 0, 0, bits(0, 1));
        change(x, PART, 990, 1, 0, bits(0));
        rules(x, "clean;silence yes;within 9");
        says(x, 1, true, 1);
        says(x, 2, true, 999);
        due.is("nine days behind that on which it came", x.bound(0, 999), bits(0, 1, 2));
        rules(x, "clean;silence yes;within 8");
        due.is("nine days, within eight", x.bound(0, 999), bits(0, 1));
        rules(x, "clean;silence yes;within 0");
        due.is("on the day itself", x.bound(0, 999), bits(0, 1));
        says(x, 2, true, 990);
        due.is("and the other one", x.bound(0, 990), bits(0, 1, 2));
        PartedLand y = alike(4);
        pact(y, OF_TRADE, 0, 0, 0);
        change(y, PART, 10, 0, 0, bits(0));
        rules(y, "clean;silence yes;within 0");
        says(y, 1, true, 9);
        due.is("a day ahead of its coming", y.bound(0, 10), bits(0, 1));
        due.is("it is not there yet", y.bound(0, 9), bits(0));
    }

    private static void tradeFirstYes() {
        due.sentence("its first yes was said at most so many DAYS");
        PartedLand x = alike(4);
        pact(x, OF_TRADE, 0, 0, 0);
        pact(x, OF_TRADE, 0, 0, 0);
        change(x, PART, 10, 0, 0, bits(0));
        rules(x, "clean;silence yes;within 3");
        says(x, 1, false, 11);
        says(x, 1, true, 14);
        due.is("its no in time does not help", x.bound(0, 14), bits(0));
        thirdSays(x, 1, true, 11);
        due.is("nor the third's yes", x.bound(0, 14), bits(0));
        x.word(1, 1, false, true, 11);
        due.is("nor its yes about another pact", x.bound(0, 14), bits(0));
        says(x, 0, true, 11);
        due.is("nor another land's", x.bound(0, 14), bits(0));
        says(x, 1, true, 13);
        due.is("its first yes, told last", x.bound(0, 14), bits(0, 1));
        due.is("on that day", x.bound(0, 13), bits(0, 1));
        due.is("a day ahead", x.bound(0, 12), bits(0));
        says(x, 1, false, 20);
        says(x, 1, true, 500);
        due.is("no", x.bound(0, 499), bits(0));
        due.is("yes again, long behind", x.bound(0, 500), bits(0, 1));
    }

    private static void tradeThird() {
        due.sentence("and the latest word of the THIRD is yes, or, if silence is yes, there is none.");
        PartedLand x = alike(4);
        pact(x, OF_TRADE, 0, 0, 0);
        pact(x, OF_TRADE, 0, 0, 0);
        change(x, PART, 5, 0, 0, bits(0));
        says(x, 1, true, 5);
        rules(x, "clean;silence yes");
        due.is("none, silence yes", x.bound(0, 9), bits(0, 1));
        rules(x, "clean;silence no");
        due.is("none, silence no", x.bound(0, 9), bits(0));
        x.word(1, 1, true, true, 9);
        thirdSays(x, 0, true, 9);
        due.is("about others", x.bound(0, 9), bits(0));
        thirdSays(x, 1, false, 10);
        thirdSays(x, 1, true, 11);
        due.is("no, silence no", x.bound(0, 10), bits(0));
        due.is("yes, silence no", x.bound(0, 11), bits(0, 1));
        rules(x, "clean;silence yes");
        due.is("none yet, silence yes", x.bound(0, 9), bits(0, 1));
        due.is("no, silence yes", x.bound(0, 10), bits(0));
        due.is("yes, silence yes", x.bound(0, 11), bits(0, 1));
        thirdSays(x, 1, false, 12);
        due.is("the latest is no", x.bound(0, 12), bits(0));
    }

    private static void boundWhenOnTheDay() {
        due.sentence("(BOUND when: on the DAY of the CHANGE, by all CHANGES ahead of it.)");
        int[] days = {19, 20, 21};
        int[] want = {bits(0), bits(0), bits(0, 2)};
        for (int i = 0; i < days.length; i++) {
            PartedLand x = alike(4);
            pact(x, OF_TRADE, 0, 0, 0);
            change(x, PART, 5, 0, 0, bits(0, 1));
            change(x, PART, 20, 1, 0, bits(0));
            says(x, 1, false, days[i]);
            due.is("no on day " + days[i], x.bound(0, 999), want[i]);
            PartedLand y = alike(4);
            change(y, PART, 0, 0, 0, bits(3));
            pact(y, OF_TRADE, 0, 0, 0);
            change(y, PART, 5, 0, 0, bits(0));
            change(y, JOIN, 20, 1, 2, 0);
            says(y, 2, false, days[i]);
            due.is("join, no on day " + days[i], y.bound(0, 999), days[i] == 21 ? bits(0, 1) : bits(0));
        }
        PartedLand z = alike(4);
        pact(z, OF_TRADE, 0, 0, 0);
        change(z, PART, 5, 0, 0, bits(0, 1));
        change(z, PART, 20, 1, 0, bits(0));
        says(z, 1, false, 10);
        says(z, 1, true, 20);
        due.is("yes again on that day", z.bound(0, 20), bits(0, 1, 2));
        says(z, 1, false, 21);
        due.is("no behind that day", z.bound(0, 21), bits(0, 2));
    }

    private static void boundWhenByChangesAhead() {
        due.sentence("by all CHANGES ahead of it.)");
        PartedLand x = alike(4);
        change(x, PART, 1, 0, 0, bits(0, 1));
        pact(x, OF_TRADE, 0, 0, 1);
        change(x, PART, 9, 1, 0, bits(0));
        change(x, JOIN, 9, 1, 0, 0);
        change(x, PART, 9, 1, 0, bits(1));
        due.is("ahead of the join and behind it, on one day", x.bound(0, 9), bits(1, 3));
        PartedLand y = alike(4);
        change(y, PART, 1, 0, 0, bits(0, 1));
        change(y, PART, 1, 0, 0, bits(2));
        pact(y, OF_TRADE, 0, 0, 1);
        change(y, JOIN, 9, 2, 1, 0);
        change(y, JOIN, 9, 2, 0, 0);
        due.is("joined one that was not, then one that was", y.bound(0, 9), bits(2));
        PartedLand z = alike(4);
        change(z, PART, 1, 0, 0, bits(0, 1));
        change(z, PART, 1, 0, 0, bits(2));
        pact(z, OF_TRADE, 0, 0, 1);
        change(z, JOIN, 9, 2, 1, 0);
        change(z, JOIN, 9, 0, 2, 0);
        change(z, PART, 9, 0, 0, bits(2));
        due.is("of who signed", z.bound(0, 9), bits(0, 3));
    }

    private static void signedBehindChanges() {
        due.sentence("(PACTS are signed, debts made, behind CHANGES of their DAY.)");
        PartedLand x = alike(4);
        change(x, PART, 5, 0, 0, bits(0));
        pact(x, OF_TRADE, 0, 0, 5);
        due.is("parted ahead of it on that day", x.bound(0, 5), bits(0));
        due.is("and on and on", x.bound(0, 999), bits(0));
        pact(x, OF_TRADE, 0, 0, 4);
        due.is("parted a day behind it", x.bound(1, 5), bits(0, 1));
        due.is("signed by who came on that day", x.pact(OF_TRADE, 1, 0, 0, 5), 2);
        change(x, PART, 6, 0, 0, bits(1));
        due.is("parts a day behind both", x.bound(0, 6), bits(0, 2));
        due.is("parts a day behind both", x.bound(1, 6), bits(0, 1, 2));
        PartedLand y = alike(4);
        change(y, PART, 5, 0, 0, bits(0));
        change(y, JOIN, 5, 0, 1, 0);
        due.is("is no more on that day", y.pact(OF_TRADE, 1, 0, 0, 5), NOT);
    }

    // ---- promises 14 to 18

    private static void pact() {
        due.sentence("A PACT: its number. UNKNOWN: LAND, THIRD, GROUND (of KIND 0); OUTSIDE: KIND, DAY;");
        PartedLand x = alike(4);
        change(x, PART, 5, 0, 0, bits(0));
        for (int kind = OF_GROUND; kind <= OF_TRADE; kind++) {
            int k = kind;
            due.each("no land", noneOf(2), land -> x.pact(k, land, 0, 1, 0), UNKNOWN);
            due.each("no third", noneOf(6), third -> x.pact(k, 0, third, 1, 0), UNKNOWN);
            due.each("no day", NO_DAYS, day -> x.pact(k, 0, 0, 1, day), OUTSIDE);
        }
        due.each("no ground", noneOf(4), ground -> x.pact(OF_GROUND, 0, 0, ground, 0), UNKNOWN);
        due.each("no kind", noneOf(3), kind -> x.pact(kind, 0, 0, 1, 0), OUTSIDE);
        due.is("none of these is one", x.count(4), 0);
        due.is("first", x.pact(OF_RANK, 0, 0, 0, 0), 0);
        due.is("second", x.pact(OF_RANK, 0, 0, 0, 0), 1);
    }

    private static void pactNotLookedAt() {
        due.sentence("GROUND (of KIND 0)");
        for (int ground : new int[] {NONE, 0, 3, 4, 8, 31, 32, LOWEST, HIGHEST}) {
            PartedLand x = alike(4);
            change(x, PART, 5, 0, 0, bits(0));
            due.is("of rank", x.pact(OF_RANK, 0, 0, ground, 5), 0);
            due.is("of trade", x.pact(OF_TRADE, 1, 0, ground, 5), 1);
            due.is("bound by rank", x.bound(0, 5), bits(0));
            due.is("bound by trade", x.bound(1, 5), bits(1));
        }
    }

    private static void word() {
        due.sentence("A WORD about a PACT and a LAND, by it, or by the THIRD: how many. UNKNOWN; OUTSIDE: DAY; FULL.");
        PartedLand x = alike(4);
        due.is("no pacts", x.word(0, 0, false, true, 0), UNKNOWN);
        pact(x, OF_TRADE, 0, 0, 500);
        change(x, PART, 501, 0, 0, bits(0));
        change(x, JOIN, 502, 0, 1, 0);
        due.each("no pact", noneOf(1), p -> x.word(p, 0, false, true, 0), UNKNOWN);
        due.each("no land", noneOf(2), land -> x.word(0, land, true, true, 0), UNKNOWN);
        due.is("ahead of the pact", x.word(0, 0, false, true, 0), 1);
        due.is("a land that had not come yet", x.word(0, 1, false, true, 0), 2);
        due.is("a land that is no more", x.word(0, 1, false, true, 999), 3);
        due.is("the third of it", x.word(0, 1, true, true, 999), 4);
        due.is("how many", x.count(5), 4);
    }

    private static void voice() {
        due.sentence("A VOICE: how many. UNKNOWN: THIRD, LAND; OUTSIDE; FULL.");
        PartedLand x = alike(4);
        change(x, PART, 501, 0, 0, bits(0));
        change(x, JOIN, 502, 0, 1, 0);
        due.each("no third", noneOf(6), third -> x.voice(third, 0, true, 0), UNKNOWN);
        due.each("no land", noneOf(2), land -> x.voice(0, land, true, 0), UNKNOWN);
        due.is("of land 0", x.voice(0, 0, true, 0), 1);
        due.is("of a land that had not come yet", x.voice(5, 1, true, 0), 2);
        due.is("of a land that is no more", x.voice(5, 1, true, 999), 3);
        due.is("how many", x.count(6), 3);
    }

    private static void bound() {
        due.sentence("LANDS that are BOUND by a PACT on a DAY, by bits. UNKNOWN; OUTSIDE.");
        PartedLand x = alike(8);
        pact(x, OF_TRADE, 0, 0, 0);
        for (int land = 1; land < 8; land++) change(x, PART, 1, 0, 0, bits(land));
        due.is("eight lands", x.bound(0, 1), 255);
        change(x, JOIN, 2, 0, 1, 0);
        change(x, FALL, 3, 0, 0, bits(0));
        due.is("the ninth and the tenth", x.bound(0, 3), bits(2, 3, 4, 5, 6, 7, 8, 9));
        due.each("no pact", noneOf(1), p -> x.bound(p, 0), UNKNOWN);
        due.each("no day", NO_DAYS, d -> x.bound(0, d), OUTSIDE);
    }

    private static void since() {
        due.sentence("The first DAY on which a LAND is BOUND by a PACT; NONE. UNKNOWN.");
        PartedLand x = alike(4);
        due.is("no pacts", x.since(0, 0), UNKNOWN);
        pact(x, OF_TRADE, 0, 0, 0);
        pact(x, OF_TRADE, 0, 0, 998);
        change(x, PART, 999, 0, 0, bits(0));
        due.is("the first day", x.since(0, 0), 0);
        due.is("the last day", x.since(0, 1), 999);
        due.is("a day ahead of it", x.since(1, 0), 998);
        says(x, 1, false, 999);
        due.is("none", x.since(0, 1), NONE);
        due.is("the other pact", x.since(1, 1), 999);
        due.each("no pact", noneOf(2), p -> x.since(p, 0), UNKNOWN);
        due.each("no land", noneOf(2), land -> x.since(0, land), UNKNOWN);
    }

    private static void sinceByDays() {
        due.sentence("The first DAY on which a LAND is BOUND by a PACT; NONE.");
        PartedLand x = alike(4);
        pact(x, OF_TRADE, 0, 0, 63);
        pact(x, OF_RANK, 0, 0, 64);
        pact(x, OF_GROUND, 0, 0, 65);
        change(x, PART, 128, 0, 0, bits(0));
        for (int pact = 0; pact < 3; pact++) {
            due.is("signed", x.since(pact, 0), 63 + pact);
            due.is("came", x.since(pact, 1), pact == 1 ? NONE : 128);
        }
        change(x, SAME, 191, 1, 0, 0);
        voice(x, 0, 1, true, 192);
        due.is("by a voice", x.since(1, 1), 192);
        voice(x, 0, 1, true, 0);
        due.is("by same", x.since(1, 1), 191);
        says(x, 1, false, 1);
        says(x, 1, true, 959);
        says(x, 1, false, 960);
        due.is("by a word, for a day", x.since(0, 1), 959);
        rules(x, "clean");
        due.is("clean", x.since(0, 1), NONE);
        thirdSays(x, 1, true, 0);
        rules(x, "clean;within 999");
        due.is("clean, with the third's yes", x.since(0, 1), 959);
    }
}
