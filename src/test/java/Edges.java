import java.nio.charset.StandardCharsets;
import java.util.Arrays;
import java.util.stream.IntStream;

/** What the tests of the document's boundaries share: its numbers, numbers beside them, and objects to ask. */
abstract class Edges {
    static final int NONE = -1, UNKNOWN = -2, OUTSIDE = -3, NOT = -4, FULL = -5;
    static final int PART = 0, FALL = 1, JOIN = 2, GIVE = 3, SAME = 4;
    static final int OF_GROUND = 0, OF_RANK = 1, OF_TRADE = 2;
    static final int FIXED = 0, MOVED = 1, ABROAD = 2;
    static final int LOWEST = Integer.MIN_VALUE, HIGHEST = Integer.MAX_VALUE;
    static final int[] NO_DAYS = besides(0, 999);

    static final Due due = new Due();

    /** Numbers below least and above most: the next ones, and such as a shift, a byte or a short would wrap around. */
    static int[] besides(int least, int most) {
        int[] some = {least - 1, least - 2, most + 1, most + 2, -256, -32, 31, 32, 33, 63, 64, 65, 128, 255, 256, 257,
            1000, 1024, 32767, 32768, 65535, 65536, 65537, 1 << 30, LOWEST, LOWEST + 1, HIGHEST - 1, HIGHEST};
        return IntStream.of(some).filter(n -> n < least || n > most).distinct().toArray();
    }

    /** Numbers that are none of so many, which are counted from 0. */
    static int[] noneOf(int many) {
        return besides(0, many - 1);
    }

    /** GROUNDS told by their HEADS and WORTH. */
    static PartedLand land(int... headsAndWorth) {
        PartedLand x = new PartedLand();
        for (int i = 0; i + 1 < headsAndWorth.length; i += 2) {
            due.is("ground", x.ground(headsAndWorth[i], headsAndWorth[i + 1]), i / 2);
        }
        return x;
    }

    /** So many GROUNDS of 1 HEAD and of WORTH 1. */
    static PartedLand alike(int grounds) {
        int[] ones = new int[2 * grounds];
        Arrays.fill(ones, 1);
        return land(ones);
    }

    static void text(PartedLand x, String text) {
        byte[] bytes = text.getBytes(StandardCharsets.ISO_8859_1);
        for (int i = 0; i < bytes.length; i += 8) {
            long packed = 0;
            int n = Math.min(8, bytes.length - i);
            for (int j = 0; j < n; j++) packed |= (bytes[i + j] & 255L) << (8 * j);
            x.write(packed, n);
        }
    }

    static PartedLand rules(PartedLand x, String text) {
        text(x, text);
        due.holds("no rules: " + text, x.rules() > 0);
        return x;
    }

    /** A CHANGE that must be taken; answers the object, to go on with. */
    static PartedLand change(PartedLand x, int kind, int day, int a, int b, int set) {
        int got = x.change(kind, day, a, b, set);
        due.holds("change " + kind + " on day " + day + " of " + a + " answered " + got, got >= 0);
        return x;
    }

    static PartedLand pact(PartedLand x, int kind, int land, int ground, int day) {
        int number = x.count(4);
        due.is("pact", x.pact(kind, land, 0, ground, day), number);
        return x;
    }

    static PartedLand debt(PartedLand x, int land, int sum, int ground, int day) {
        int number = x.count(7);
        due.is("debt", x.debt(land, sum, ground, day), number);
        return x;
    }

    static PartedLand thing(PartedLand x, int kind, int many, int ground) {
        int number = x.count(8);
        due.is("thing", x.thing(kind, many, ground), number);
        return x;
    }

    /** A LAND's own WORD about PACT 0. */
    static void says(PartedLand x, int land, boolean yes, int day) {
        due.holds("word", x.word(0, land, false, yes, day) > 0);
    }

    /** A WORD of the THIRD of PACT 0 about a LAND. */
    static void thirdSays(PartedLand x, int land, boolean yes, int day) {
        due.holds("word", x.word(0, land, true, yes, day) > 0);
    }

    static void voice(PartedLand x, int third, int land, boolean yes, int day) {
        due.holds("voice", x.voice(third, land, yes, day) > 0);
    }

    /** A bit for each of some numbers. */
    static int bits(int... numbers) {
        int bits = 0;
        for (int number : numbers) bits |= 1 << number;
        return bits;
    }

    /** All rows full: of all there is as much as the document allows. */
    static PartedLand full() {
        PartedLand x = new PartedLand();
        tellFull(x);
        int[] most = {8, 10, 12, 160, 12, 24, 24, 8, 8, 12};
        for (int what = 0; what < 10; what++) due.is("most of " + what, x.count(what), most[what]);
        return x;
    }

    /** 128 calls; the last CHANGE is on DAY 12. */
    static void tellFull(PartedLand x) {
        for (int i = 0; i < 8; i++) x.ground(i + 1, 8 - i);
        for (int i = 1; i < 8; i++) x.change(PART, i, 0, 0, 1 << i);
        x.change(JOIN, 8, 0, 1, 0);
        x.change(FALL, 9, 0, 0, bits(0));
        x.change(JOIN, 10, 8, 9, 0);
        x.change(SAME, 11, 8, 0, 0);
        x.change(GIVE, 12, 8, 2, bits(1));
        for (int i = 0; i < 12; i++) x.pact(i % 3, 0, i % 6, i % 8, 0);
        for (int i = 0; i < 24; i++) x.word(i % 12, i % 10, i % 3 == 0, i % 2 == 0, i);
        for (int i = 0; i < 24; i++) x.voice(i % 6, i % 10, i % 2 == 0, i);
        for (int i = 0; i < 8; i++) x.debt(0, 100 + i, i % 2 == 0 ? NONE : i, 0);
        for (int i = 0; i < 8; i++) x.thing(i % 3, 10 + i, i);
        for (int i = 0; i < 12; i++) x.served(i % 10, i % 8, (i + 3) % 8);
        text(x, "clean;within 7" + " ".repeat(146));
    }
}
