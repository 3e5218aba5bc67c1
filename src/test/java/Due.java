import java.nio.charset.StandardCharsets;
import java.util.Objects;
import java.util.concurrent.Callable;

/** What the tests share: counting what is not as due, and feeding texts. */
final class Due {
    private static int wrong = 0;

    private Due() {
    }

    static void equal(String what, Object got, Object want) {
        if (!Objects.equals(got, want)) {
            wrong++;
            System.out.println(what + " answered " + got + ", due is " + want);
        }
    }

    /** The answer of a call, or "throws." and the name of what it throws. */
    static Object answer(Callable<?> call) {
        try {
            return call.call();
        } catch (Exception e) {
            return "throws." + e.getClass().getSimpleName();
        }
    }

    static void noSuch(String what, Callable<?> call) {
        equal(what, answer(call), "throws.NoSuchElementException");
    }

    static void illegal(String what, Callable<?> call) {
        equal(what, answer(call), "throws.IllegalArgumentException");
    }

    /** What is just outside of a range on both sides, and far off. */
    static int[] outside(int least, int most) {
        return new int[] {least - 1, most + 1, Integer.MIN_VALUE, Integer.MAX_VALUE};
    }

    static int wrongSoFar() {
        return wrong;
    }

    /** The five parameters of feed for each 20 bytes of a text, filled up with blanks. */
    static int[][] feeds(byte[] text) {
        int[][] calls = new int[(text.length + 19) / 20][5];
        for (int i = 0; i < calls.length * 20; i++) {
            int b = i < text.length ? text[i] & 255 : ' ';
            calls[i / 20][i % 20 / 4] |= b << 24 - 8 * (i % 4);
        }
        return calls;
    }

    static void feed(GlitchCourt court, String text) {
        for (int[] f : feeds(text.getBytes(StandardCharsets.ISO_8859_1))) {
            court.feed(f[0], f[1], f[2], f[3], f[4]);
        }
    }

    static int load(GlitchCourt court, String text) {
        feed(court, text);
        return court.load(text.length());
    }

    static int query(GlitchCourt court, String text) {
        feed(court, text);
        return court.query(text.length());
    }

    static GlitchCourt court(String text) {
        GlitchCourt court = new GlitchCourt();
        int nets = load(court, text);
        if (nets < 1) {
            equal("load of " + text, nets, "a number of nets");
        }
        return court;
    }

    static String formatted(GlitchCourt court, int net, int kind) {
        int length = court.format(net, kind);
        StringBuilder text = new StringBuilder();
        for (int i = 0; i < length; i++) {
            text.append((char) court.formattedByte(i));
        }
        return text.toString();
    }

    /** The first tokens of a text, a blank behind each. */
    static String joined(String[] tokens, int count) {
        StringBuilder text = new StringBuilder();
        for (int i = 0; i < count; i++) {
            text.append(tokens[i]).append(' ');
        }
        return text.toString();
    }

    /** A wave that is 1 from the first to the second time, from the third to the fourth and so on. */
    static long bits(int... runs) {
        long sum = 0;
        for (int i = 0; i < runs.length; i += 2) {
            for (int t = runs[i]; t <= runs[i + 1]; t++) {
                sum += 1L << t;
            }
        }
        return sum;
    }

    static void close(String name) {
        System.out.println(wrong == 0 ? name + ": all answers are as due" : name + ": " + wrong + " not as due");
        if (wrong != 0) {
            System.exit(1);
        }
    }
}
