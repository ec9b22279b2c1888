import java.nio.charset.StandardCharsets;
import java.util.NoSuchElementException;
import java.util.function.IntToLongFunction;

/** What the tests share: telling a text, saying what is due, and ending with the right code. */
final class Checks {
    static final int IOOBE = -101;
    static final int NSEE = -102;

    private int wrong = 0;
    private int made = 0;
    private String sentence = "";

    /** The sentence of the document that the answers from here on are about. */
    void says(String words) {
        sentence = "[" + words + "] ";
    }

    void due(String what, long got, long want) {
        made++;
        if (got != want) {
            wrong++;
            System.out.println(sentence + what + " answered " + got + ", due is " + want);
        }
    }

    /** What lies just and far beyond least .. most is refused with an answer; what lies on it isn't. */
    void range(String what, int least, int most, long refused, IntToLongFunction call) {
        for (int i : new int[] {Integer.MIN_VALUE, least - 1, most + 1, Integer.MAX_VALUE}) {
            due(what + " " + i, call.applyAsLong(i), refused);
        }
        for (int i : new int[] {least, most}) {
            due(what + " " + i + " is refused", call.applyAsLong(i) == refused, false);
        }
    }

    void due(String what, boolean got, boolean want) {
        due(what, got ? 1 : 0, want ? 1 : 0);
    }

    /** Every row of answers at once, so that a test can write them as a row. */
    void row(String what, long[] got, long... want) {
        due(what + ": how many", got.length, want.length);
        for (int i = 0; i < Math.min(got.length, want.length); i++) {
            due(what + " [" + i + "]", got[i], want[i]);
        }
    }

    void end(String name) {
        System.out.println(name + ": " + made + " answers, " + wrong + " wrong");
        System.exit(wrong == 0 ? 0 : 1);
    }

    /** Feeds a text and nothing else, in steps of twenty bytes, the last one with blanks behind. */
    static int feed(HeavenStop x, String text) {
        byte[] bytes = text.getBytes(StandardCharsets.ISO_8859_1);
        int fed = 0;
        for (int at = 0; at < bytes.length; at += 20) {
            int[] five = new int[5];
            for (int i = 0; i < 20; i++) {
                int one = at + i < bytes.length ? bytes[at + i] & 255 : 32;
                five[i / 4] = five[i / 4] << 8 | one;
            }
            fed = x.feed(five[0], five[1], five[2], five[3], five[4]);
        }
        return fed;
    }

    /** Feeds a text and reads it. */
    static int tell(HeavenStop x, String text) {
        feed(x, text);
        return x.text(text.length());
    }

    /** A new object that was told a text without a FAULT. */
    static HeavenStop told(String text) {
        HeavenStop x = new HeavenStop();
        if (tell(x, text) < 0) {
            throw new IllegalArgumentException("fault " + x.fault(0) + " at " + x.fault(1) + ": " + text);
        }
        return x;
    }

    static int soul(HeavenStop x, int soul, int what) {
        try {
            return x.soul(soul, what);
        } catch (IndexOutOfBoundsException e) {
            return IOOBE;
        } catch (NoSuchElementException e) {
            return NSEE;
        }
    }

    static int letters(String name) {
        int all = 0;
        for (int i = 0; i < 6; i++) {
            all = all << 5 | (i < name.length() ? name.charAt(i) - 'a' + 1 : 0);
        }
        return all;
    }

    static long[] queue(HeavenStop x) {
        long[] all = new long[x.count(5)];
        for (int i = 0; i < all.length; i++) {
            all[i] = x.queue(i);
        }
        return all;
    }
}
