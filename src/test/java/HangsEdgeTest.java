/** The boundaries of what hangs on what: the document's Terms, part 4, and promises 25 to 29. */
public final class HangsEdgeTest extends Edges {
    public static void main(String[] args) {
        hangsOnADay();
        hangsOneWayAndTheOther();
        hangsForPactsAndLands();
        hangsMost();
        hangsMostFirst();
        hangsMostUpToADay();
        hangsOutside();
        leftOutNone();
        leftOutFewest();
        leftOutLeast();
        leftOutTenWords();
        leftOutByTheYes();
        leftOutAsTold();
        leftOutOfAnotherLand();
        leftOutOfGroundAndRank();
        without();
        burdenOwesLessHas();
        burdenLessOneAbroad();
        burdenAtItsEnds();
        burdenByShare();
        burdenRefused();
        bestOfSeveral();
        best();
        countEmpty();
        count();
        due.end();
    }

    // ---- Terms, part 4

    private static void hangsOnADay() {
        due.sentence("HANGS on a DAY (1 .. 999)");
        PartedLand x = alike(4);
        pact(x, OF_TRADE, 0, 0, 1);
        pact(x, OF_RANK, 0, 0, 998);
        change(x, PART, 999, 0, 0, bits(0));
        due.is("day 1", x.hangs(1, 0), 1);
        due.is("day 2", x.hangs(2, 0), 0);
        due.is("day 997", x.hangs(997, 0), 0);
        due.is("day 998", x.hangs(998, 0), 1);
        due.is("day 999", x.hangs(999, 0), 1);
        due.each("no such day", besides(1, 999), day -> x.hangs(day, 0), OUTSIDE);
        PartedLand y = alike(4);
        pact(y, OF_TRADE, 0, 0, 0);
        due.is("bound on day 0 as on day 1", y.hangs(1, 0), 0);
    }

    private static void hangsOneWayAndTheOther() {
        due.sentence("it is that they are BOUND on it, not on the DAY ahead, or the other way.");
        PartedLand x = alike(4);
        pact(x, OF_TRADE, 0, 0, 5);
        change(x, PART, 10, 0, 0, bits(0));
        says(x, 1, false, 20);
        says(x, 1, true, 21);
        change(x, FALL, 30, 0, 0, bits(1));
        change(x, JOIN, 40, 2, 3, 0);
        int[] days = {4, 5, 6, 9, 10, 11, 19, 20, 21, 22, 29, 30, 31, 40, 41};
        int[] want = {0, 1, 0, 0, 1, 0, 0, 1, 1, 0, 0, 3, 0, 1, 0};
        for (int i = 0; i < days.length; i++) due.is("day " + days[i], x.hangs(days[i], 0), want[i]);
        PartedLand y = alike(4);
        pact(y, OF_GROUND, 0, 0, 5);
        change(y, PART, 10, 0, 0, bits(0));
        due.is("from one to the other: two", y.hangs(10, 0), 2);
        change(y, GIVE, 11, 0, 1, bits(1));
        due.is("another ground: none", y.hangs(11, 0), 0);
        change(y, JOIN, 12, 0, 1, 0);
        change(y, PART, 12, 0, 0, bits(0));
        due.is("there and back on one day, by another land", y.hangs(12, 0), 2);
    }

    private static void hangsForPactsAndLands() {
        due.sentence("for how many PACTS and LANDS");
        PartedLand x = alike(8);
        for (int i = 0; i < 12; i++) pact(x, OF_TRADE, 0, 0, 0);
        for (int land = 1; land < 8; land++) change(x, PART, 1, 0, 0, bits(land));
        due.is("twelve pacts, seven lands", x.hangs(1, 0), 84);
        change(x, JOIN, 2, 0, 1, 0);
        change(x, FALL, 3, 0, 0, bits(0));
        due.is("twelve pacts, one land", x.hangs(2, 0), 12);
        due.is("twelve pacts, three lands", x.hangs(3, 0), 36);
        due.is("most", x.hangs(999, 1), 1);
        for (int p = 0; p < 12; p++) due.is("word", x.word(p, 9, false, false, 4), p + 1);
        due.is("twelve words", x.hangs(4, 0), 12);
    }

    private static void hangsMost() {
        due.sentence("the DAY from 1 up to that one on which most HANGS");
        PartedLand x = alike(4);
        due.is("nothing hangs", x.hangs(1, 1), 1);
        due.is("nothing hangs", x.hangs(999, 1), 1);
        pact(x, OF_TRADE, 0, 0, 0);
        due.is("day 0 is none of them", x.hangs(999, 1), 1);
        pact(x, OF_TRADE, 0, 0, 999);
        due.is("the last day", x.hangs(999, 1), 999);
        due.is("up to a day ahead of it", x.hangs(998, 1), 1);
        voice(x, 0, 0, true, 500);
        says(x, 0, false, 501);
        due.is("days on which something was told, but nothing hangs", x.hangs(998, 1), 1);
        PartedLand w = alike(4);
        pact(w, OF_TRADE, 0, 0, 0);
        change(w, FALL, 10, 0, 0, bits(0));
        change(w, PART, 10, 2, 0, bits(1));
        says(w, 1, false, 10);
        pact(w, OF_RANK, 2, 0, 20);
        pact(w, OF_RANK, 2, 0, 20);
        pact(w, OF_RANK, 2, 0, 20);
        due.is("three and three", w.hangs(10, 0) * 10 + w.hangs(20, 0), 33);
        due.is("the first", w.hangs(999, 1), 10);
        says(w, 3, false, 10);
        due.is("two and three", w.hangs(999, 1), 20);
        says(w, 1, true, 10);
        due.is("three and three again", w.hangs(999, 1), 10);
        PartedLand v = alike(4);
        pact(v, OF_TRADE, 0, 0, 1);
        change(v, PART, 2, 0, 0, bits(0));
        change(v, PART, 2, 0, 0, bits(1));
        says(v, 1, false, 2);
        due.is("one and one: the first word is not left out", v.hangs(999, 1), 1);
        PartedLand y = alike(4);
        pact(y, OF_TRADE, 0, 0, 0);
        change(y, FALL, 10, 0, 0, bits(0));
        change(y, FALL, 11, 2, 0, bits(1));
        says(y, 1, false, 12);
        says(y, 3, false, 12);
        due.is("three and three", y.hangs(10, 0) * 10 + y.hangs(11, 0), 33);
        due.is("two", y.hangs(12, 0), 2);
        says(y, 4, false, 12);
        due.is("three, too", y.hangs(12, 0), 3);
        due.is("the first", y.hangs(12, 1), 10);
        y.word(0, 3, false, false, 11);
        due.is("two on that day now, two on the next", y.hangs(11, 0) * 10 + y.hangs(12, 0), 22);
        due.is("the first still", y.hangs(999, 1), 10);
        says(y, 1, false, 10);
        says(y, 1, true, 11);
        says(y, 1, false, 12);
        due.is("two, three, two", y.hangs(10, 0) * 100 + y.hangs(11, 0) * 10 + y.hangs(12, 0), 232);
        due.is("neither the first nor the last", y.hangs(999, 1), 11);
    }

    private static void hangsMostFirst() {
        due.sentence("on which most HANGS, of several the first (1)");
        int[][] days = {{1, 2}, {63, 64}, {64, 65}, {127, 128}, {998, 999}, {1, 999}};
        for (int[] d : days) {
            PartedLand x = alike(4);
            pact(x, OF_TRADE, 0, 0, d[1]);
            due.is("day " + d[1] + " alone", x.hangs(999, 1), d[1]);
            pact(x, OF_RANK, 0, 0, d[0]);
            due.is("of days " + d[0] + " and " + d[1], x.hangs(999, 1), d[0]);
            pact(x, OF_RANK, 0, 0, d[1]);
            due.is("more on day " + d[1], x.hangs(999, 1), d[1]);
            due.is("up to day " + (d[1] - 1), x.hangs(d[1] - 1, 1), d[0]);
        }
    }

    private static void hangsMostUpToADay() {
        due.sentence("the DAY from 1 up to that one");
        PartedLand x = alike(4);
        pact(x, OF_TRADE, 0, 0, 5);
        pact(x, OF_TRADE, 0, 0, 9);
        pact(x, OF_TRADE, 0, 0, 9);
        int[] days = {1, 4, 5, 8, 9, 10, 999};
        int[] want = {1, 1, 5, 5, 9, 9, 9};
        for (int i = 0; i < days.length; i++) due.is("up to day " + days[i], x.hangs(days[i], 1), want[i]);
        due.each("no such day", besides(1, 999), day -> x.hangs(day, 1), OUTSIDE);
    }

    private static void hangsOutside() {
        due.sentence("OUTSIDE: DAY 0, what.");
        for (PartedLand x : new PartedLand[] {new PartedLand(), full()}) {
            due.is("day 0", x.hangs(0, 0), OUTSIDE);
            due.is("day 0", x.hangs(0, 1), OUTSIDE);
            due.each("no such what", noneOf(2), what -> x.hangs(1, what), OUTSIDE);
            due.each("no such what", noneOf(2), what -> x.hangs(999, what), OUTSIDE);
            due.each("neither", noneOf(2), what -> x.hangs(0, what), OUTSIDE);
        }
    }

    private static void leftOutNone() {
        due.sentence("(bits; 0: none need be); none.");
        PartedLand x = alike(4);
        pact(x, OF_TRADE, 0, 0, 3);
        change(x, PART, 5, 0, 0, bits(0));
        due.is("no words, bound", x.without(0, 1, 5, true), 0);
        due.is("no words, not to be had", x.without(0, 1, 5, false), NONE);
        due.is("ahead of the pact, not", x.without(0, 0, 2, false), 0);
        due.is("ahead of the pact, bound", x.without(0, 0, 2, true), NONE);
        due.is("who signed, bound", x.without(0, 0, 3, true), 0);
        due.is("who signed, not", x.without(0, 0, 3, false), NONE);
        due.is("not there yet, not", x.without(0, 1, 4, false), 0);
        due.is("not there yet, bound", x.without(0, 1, 4, true), NONE);
        says(x, 1, false, 9);
        due.is("no, not", x.without(0, 1, 9, false), 0);
        due.is("no, bound", x.without(0, 1, 9, true), bits(0));
        due.is("a day ahead of it", x.without(0, 1, 8, true), 0);
        due.is("a day ahead of it", x.without(0, 1, 8, false), NONE);
    }

    private static void leftOutFewest() {
        due.sentence("LEFT OUT: the fewest of the first 10 WORDS without which a LAND is BOUND by a PACT on a DAY");
        for (int many = 1; many <= 10; many++) {
            PartedLand x = alike(4);
            pact(x, OF_TRADE, 0, 0, 0);
            change(x, PART, 5, 0, 0, bits(0));
            for (int i = 0; i < many; i++) says(x, 1, false, 20 - i);
            due.is("all of " + many, x.without(0, 1, 20, true), (1 << many) - 1);
            due.is("none for not", x.without(0, 1, 20, false), 0);
            for (int i = 0; i < many; i++) {
                due.is("from the " + i + "th on", x.without(0, 1, 20 - i, true), (1 << many) - (1 << i));
            }
        }
        PartedLand y = alike(4);
        pact(y, OF_TRADE, 0, 0, 0);
        change(y, PART, 5, 0, 0, bits(0, 1));
        change(y, PART, 9, 1, 0, bits(0));
        says(y, 2, false, 9);
        says(y, 2, false, 9);
        says(y, 1, false, 9);
        due.is("three for the one", y.without(0, 2, 9, true), bits(0, 1, 2));
        due.is("one for the other", y.without(0, 1, 9, true), bits(2));
    }

    private static void leftOutLeast() {
        due.sentence("of several the least number (bits; 0: none need be)");
        PartedLand x = alike(4);
        pact(x, OF_TRADE, 0, 0, 0);
        change(x, PART, 5, 0, 0, bits(0));
        rules(x, "clean;within 10");
        for (int i = 0; i < 3; i++) says(x, 0, true, 6);
        says(x, 1, true, 6);
        thirdSays(x, 1, true, 6);
        due.is("of two alone the first", x.without(0, 1, 6, false), bits(3));
        due.is("bound", x.without(0, 1, 6, true), 0);
        PartedLand y = alike(4);
        pact(y, OF_TRADE, 0, 0, 0);
        change(y, PART, 5, 0, 0, bits(0));
        rules(y, "clean;within 10");
        thirdSays(y, 1, true, 6);
        says(y, 1, true, 6);
        says(y, 1, true, 6);
        due.is("one of the third, not two of its own", y.without(0, 1, 6, false), bits(0));
        PartedLand z = alike(4);
        pact(z, OF_TRADE, 0, 0, 0);
        change(z, PART, 5, 0, 0, bits(0));
        rules(z, "clean;within 10");
        says(z, 1, true, 6);
        says(z, 1, true, 7);
        thirdSays(z, 1, true, 6);
        due.is("one of a higher bit, not two of lower ones", z.without(0, 1, 7, false), bits(2));
        thirdSays(z, 1, true, 6);
        due.is("two and two: the lower ones", z.without(0, 1, 7, false), bits(0, 1));
    }

    private static void leftOutTenWords() {
        due.sentence("the fewest of the first 10 WORDS");
        for (int place = 0; place < 24; place++) {
            PartedLand x = alike(4);
            pact(x, OF_TRADE, 0, 0, 0);
            change(x, PART, 5, 0, 0, bits(0));
            for (int i = 0; i < 24; i++) says(x, i == place ? 1 : 0, false, 6);
            due.is("the only one, at place " + place, x.without(0, 1, 6, true), place < 10 ? 1 << place : NONE);
            due.is("not, at place " + place, x.without(0, 1, 6, false), 0);
        }
        PartedLand y = alike(4);
        pact(y, OF_TRADE, 0, 0, 0);
        change(y, PART, 5, 0, 0, bits(0));
        for (int i = 0; i < 10; i++) says(y, 1, false, 6);
        due.is("all ten", y.without(0, 1, 6, true), 1023);
        says(y, 1, false, 7);
        due.is("the eleventh of a day behind", y.without(0, 1, 6, true), 1023);
        due.is("on its day", y.without(0, 1, 7, true), NONE);
        says(y, 1, true, 8);
        due.is("the twelfth is yes", y.without(0, 1, 8, true), 0);
        due.is("cannot be left out", y.without(0, 1, 8, false), NONE);
    }

    private static void leftOutByTheYes() {
        due.sentence("without which a LAND is BOUND by a PACT on a DAY, or is not");
        PartedLand x = alike(4);
        pact(x, OF_TRADE, 0, 0, 0);
        change(x, PART, 5, 0, 0, bits(0));
        rules(x, "clean;silence yes;within 5");
        says(x, 1, true, 10);
        says(x, 1, true, 11);
        due.is("without its first yes the other comes too late", x.without(0, 1, 11, false), bits(0));
        thirdSays(x, 1, false, 11);
        due.is("without the third's no", x.without(0, 1, 11, true), bits(2));
        rules(x, "clean;within 5");
        due.is("silence no: in vain", x.without(0, 1, 11, true), NONE);
        rules(x, "follow");
        due.is("with follow", x.without(0, 1, 11, true), 0);
        due.is("with follow, not", x.without(0, 1, 11, false), NONE);
    }

    private static void leftOutAsTold() {
        due.sentence("is BOUND by a PACT on a DAY, or is not, as told;");
        PartedLand x = alike(4);
        pact(x, OF_TRADE, 0, 0, 0);
        pact(x, OF_TRADE, 0, 0, 0);
        change(x, PART, 5, 0, 0, bits(0));
        x.word(1, 1, false, false, 6);
        x.word(0, 1, false, false, 6);
        x.word(0, 1, false, true, 7);
        due.is("bound on that day already", x.without(0, 1, 7, true), 0);
        due.is("not bound without its yes", x.without(0, 1, 7, false), bits(2));
        due.is("bound without its no", x.without(0, 1, 6, true), bits(1));
        due.is("by the other pact", x.without(1, 1, 6, true), bits(0));
        due.is("the words stay", x.bound(0, 6) * 100 + x.bound(0, 7) * 10 + x.bound(1, 7), 131);
        due.is("three", x.count(5), 3);
    }

    private static void leftOutOfAnotherLand() {
        due.sentence("without which a LAND is BOUND by a PACT on a DAY");
        PartedLand x = alike(4);
        pact(x, OF_TRADE, 0, 0, 0);
        change(x, PART, 5, 0, 0, bits(0, 1));
        change(x, PART, 9, 1, 0, bits(0));
        says(x, 1, false, 9);
        says(x, 2, false, 10);
        due.is("its own and that out of which it came", x.without(0, 2, 10, true), bits(0, 1));
        due.is("a day ahead of its own", x.without(0, 2, 9, true), bits(0));
        change(x, JOIN, 12, 2, 0, 0);
        due.is("joined with who signed", x.without(0, 2, 12, true), 0);
        due.is("joined with who signed, not", x.without(0, 2, 12, false), NONE);
    }

    private static void leftOutOfGroundAndRank() {
        due.sentence("LEFT OUT: the fewest of the first 10 WORDS");
        PartedLand x = alike(4);
        pact(x, OF_GROUND, 0, 0, 0);
        pact(x, OF_RANK, 0, 0, 0);
        change(x, PART, 5, 0, 0, bits(0));
        for (int i = 0; i < 10; i++) x.word(i % 2, i % 2, false, false, 5);
        due.is("ground, who has it", x.without(0, 1, 5, true), 0);
        due.is("ground, who has it, not", x.without(0, 1, 5, false), NONE);
        due.is("ground, who has it not", x.without(0, 0, 5, false), 0);
        due.is("ground, who has it not, bound", x.without(0, 0, 5, true), NONE);
        due.is("rank, who signed", x.without(1, 0, 5, true), 0);
        due.is("rank, who signed, not", x.without(1, 0, 5, false), NONE);
        due.is("rank, who came out, bound", x.without(1, 1, 5, true), NONE);
    }

    // ---- promises 26 to 29

    private static void without() {
        due.sentence("LEFT OUT, by bits; NONE. UNKNOWN; OUTSIDE.");
        PartedLand x = alike(4);
        due.is("no pacts", x.without(0, 0, 0, true), UNKNOWN);
        pact(x, OF_TRADE, 0, 0, 0);
        for (boolean bound : new boolean[] {true, false}) {
            due.each("no pact", noneOf(1), p -> x.without(p, 0, 0, bound), UNKNOWN);
            due.each("no land", noneOf(1), land -> x.without(0, land, 0, bound), UNKNOWN);
            due.each("no day", NO_DAYS, day -> x.without(0, 0, day, bound), OUTSIDE);
        }
        due.is("the first day", x.without(0, 0, 0, true), 0);
        due.is("the last day", x.without(0, 0, 999, true), 0);
    }

    private static void burdenOwesLessHas() {
        due.sentence("BURDEN of a LAND on a DAY: what it owes less MOVED things that it has");
        PartedLand x = alike(4);
        debt(x, 0, 50, NONE, 3);
        debt(x, 0, 60, 2, 4);
        thing(x, MOVED, 20, 0);
        thing(x, MOVED, 1, 0);
        thing(x, FIXED, 0, 0);
        int[] want = {99979, 99979, 99979, 100029, 100089, 100089};
        for (int day = 0; day < 6; day++) due.is("day " + day, x.burden(0, day, 0), want[day]);
        change(x, PART, 5, 0, 0, bits(2));
        due.is("the new land", x.burden(1, 5, 0), 100000 + 12 + 60 - 5);
        due.is("the other one", x.burden(0, 5, 0), 100000 + 38 - 15 - 1);
        due.is("not there yet", x.burden(1, 4, 0), 100000);
        change(x, JOIN, 6, 1, 0, 0);
        due.is("no more", x.burden(0, 6, 0), 100000);
        due.is("all of it", x.burden(1, 6, 0), 100089);
    }

    private static void burdenLessOneAbroad() {
        due.sentence("and less 1 for each ABROAD.");
        PartedLand x = alike(4);
        for (int many = 0; many < 8; many++) {
            due.is(many + " abroad", x.burden(0, 0, 0), 100000 - many);
            thing(x, ABROAD, 77, 77);
        }
        due.is("eight abroad", x.burden(0, 0, 0), 99992);
        change(x, PART, 1, 0, 0, bits(0, 1, 2));
        due.is("the new land, by heads", x.burden(1, 1, 0), 99992);
        due.is("the old land, by heads", x.burden(0, 1, 0), 100000);
        due.is("the new land, equal", x.burden(1, 1, 2), 100000);
        due.is("the old land, equal", x.burden(0, 1, 2), 99992);
        PartedLand y = alike(4);
        for (int many = 0; many < 8; many++) thing(y, FIXED, 77, 0);
        due.is("fixed ones don't count", y.burden(0, 0, 0), 100000);
    }

    private static void burdenAtItsEnds() {
        due.sentence("BURDEN of a LAND on a DAY, by a share (0, 1, 2), and 100000.");
        PartedLand x = new PartedLand();
        for (int share = 0; share < 3; share++) due.is("nothing", x.burden(0, 0, share), 100000);
        for (int i = 0; i < 8; i++) debt(x, 0, 9999, NONE, 0);
        for (int share = 0; share < 3; share++) due.is("most", x.burden(0, 999, share), 179992);
        PartedLand y = new PartedLand();
        for (int i = 0; i < 8; i++) thing(y, MOVED, 9999, 0);
        for (int share = 0; share < 3; share++) due.is("least", y.burden(0, 0, share), 20008);
        for (int i = 0; i < 8; i++) debt(y, 0, 9999, NONE, 1);
        due.is("a day ahead", y.burden(0, 0, 0), 20008);
        due.is("both", y.burden(0, 1, 0), 100000);
    }

    private static void burdenByShare() {
        due.sentence("by a share (0, 1, 2)");
        PartedLand x = land(10, 3, 30, 1);
        debt(x, 0, 1000, NONE, 0);
        thing(x, MOVED, 100, 0);
        thing(x, ABROAD, 0, 0);
        change(x, PART, 1, 0, 0, bits(0));
        int[] ofNew = {100000 + 250 - 25, 100000 + 750 - 75 - 1, 100000 + 500 - 50};
        int[] ofOld = {100000 + 750 - 75 - 1, 100000 + 250 - 25, 100000 + 500 - 50 - 1};
        for (String rules : new String[] {"share heads", "share worth", "share equal"}) {
            rules(x, rules);
            for (int share = 0; share < 3; share++) {
                due.is("new land, share " + share, x.burden(1, 1, share), ofNew[share]);
                due.is("old land, share " + share, x.burden(0, 1, share), ofOld[share]);
            }
            due.is("the best for the new land", x.best(1, 1), 0);
            due.is("the best for the old land", x.best(0, 1), 1);
        }
    }

    private static void burdenRefused() {
        due.sentence("BURDEN of a LAND on a DAY, by a share (0, 1, 2), and 100000. UNKNOWN; OUTSIDE.");
        PartedLand x = alike(4);
        change(x, PART, 1, 0, 0, bits(0));
        due.each("no share", noneOf(3), share -> x.burden(1, 1, share), OUTSIDE);
        for (int share = 0; share < 3; share++) {
            int s = share;
            due.each("no land", noneOf(2), land -> x.burden(land, 1, s), UNKNOWN);
            due.each("no day", NO_DAYS, day -> x.burden(1, day, s), OUTSIDE);
        }
    }

    private static void bestOfSeveral() {
        due.sentence("BEST SHARE: that (0 heads, 1 worth, 2 equal) with the least BURDEN; of several the first.");
        int[][] cases = {{1, 1, 1, 1, 0, 0}, {1, 3, 2, 3, 0, 2}, {1, 3, 1, 3, 0, 2}, {3, 1, 1, 3, 1, 0}, {3, 1, 3, 1, 2, 0},
            {1, 1, 1, 3, 1, 0}, {1, 1, 3, 1, 0, 1}, {1, 3, 1, 1, 0, 1}, {3, 1, 1, 1, 1, 0}, {1, 3, 0, 0, 0, 1}};
        for (int[] c : cases) {
            PartedLand x = land(c[0], c[2], c[1], c[3]);
            debt(x, 0, 1200, NONE, 0);
            change(x, PART, 1, 0, 0, bits(0));
            String what = "heads " + c[0] + " and " + c[1] + ", worth " + c[2] + " and " + c[3];
            due.is("new land, " + what, x.best(1, 1), c[4]);
            due.is("old land, " + what, x.best(0, 1), c[5]);
            due.is("a day ahead all three are one", x.best(0, 0), 0);
        }
        PartedLand y = land(1, 3, 3, 1);
        thing(y, MOVED, 1200, 0);
        change(y, PART, 1, 0, 0, bits(0));
        due.is("the most things, new land", y.best(1, 1), 1);
        due.is("the most things, old land", y.best(0, 1), 0);
    }

    private static void best() {
        due.sentence("`int best(int land, int day)`: BEST SHARE. UNKNOWN; OUTSIDE.");
        PartedLand x = new PartedLand();
        due.is("nothing", x.best(0, 0), 0);
        due.is("nothing, on the last day", x.best(0, 999), 0);
        due.each("no land", noneOf(1), land -> x.best(land, 0), UNKNOWN);
        due.each("no day", NO_DAYS, day -> x.best(0, day), OUTSIDE);
        PartedLand y = land(3, 3, 3, 3);
        debt(y, 0, 1, NONE, 0);
        change(y, PART, 1, 0, 0, bits(0));
        due.is("who is not there yet", y.best(1, 0), 0);
        rules(y, "share worth");
        due.is("whatever the rules", y.best(1, 1), 0);
    }

    private static void countEmpty() {
        due.sentence("0 GROUNDS, 1 LANDS that ever came, 2 CHANGES, 3 bytes of THE TEXT, 4 PACTS, 5 WORDS, 6 VOICES, "
            + "7 debts, 8 things, 9 PENSIONERS. OUTSIDE.");
        PartedLand x = new PartedLand();
        for (int what = 0; what < 10; what++) due.is("count " + what, x.count(what), what == 1 ? 1 : 0);
        due.each("no such what", noneOf(10), x::count, OUTSIDE);
    }

    private static void count() {
        due.sentence("1 LANDS that ever came");
        PartedLand x = full();
        int[] want = {8, 10, 12, 160, 12, 24, 24, 8, 8, 12};
        for (int what = 0; what < 10; what++) due.is("count " + what, x.count(what), want[what]);
        due.each("no such what", noneOf(10), x::count, OUTSIDE);
        x.erase();
        due.is("no bytes", x.count(3), 0);
        due.is("as many lands, though some are no more", x.count(1) - Integer.bitCount(x.lands(999)), 3);
    }
}
