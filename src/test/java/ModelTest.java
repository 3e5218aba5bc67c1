import java.nio.charset.StandardCharsets;
import java.util.Random;

/** Long runs of drawn calls (the seeds are fixed), each answer compared with that of PlainCourt. */
public final class ModelTest {
    private static final int RUNS = 1500;
    private static final String[] KINDS = {"and", "or", "xor", "nand", "nor", "not", "same"};
    private static final String[] PROPERTIES =
            {"net", "kind", "cone", "changes", "wrong", "settled", "ruled", "pulses", "last"};
    private static final String[] SCRAPS = {"input", "gate", "purses", "bench", ";", "(", ")", "not", "and", "or",
        "<", "=", ">", "0", "1", "5", "61", "007", "100000", "99999999999999999999", "A", "\u00e9", "\t", "-", "\n",
        "x", "many", "first", "net", "last", "same", "10000", "9999", "12"};

    private final Random random;
    private final GlitchCourt court = new GlitchCourt();
    private final PlainCourt plain = new PlainCourt();
    private final int run;
    private int calls = 0;

    private ModelTest(int run) {
        this.run = run;
        this.random = new Random(run);
    }

    public static void main(String[] args) {
        for (int run = 1; run <= RUNS && Due.wrongSoFar() < 20; run++) {
            new ModelTest(run).play();
        }
        Due.close("ModelTest");
    }

    private void play() {
        // With what comes last it stays within the 512 calls of an object.
        int length = 40 + random.nextInt(380);
        if (random.nextInt(20) != 0) {
            feedAndLoad(false);
        }
        while (calls < length) {
            int draw = random.nextInt(100);
            if (draw < 45) {
                operate();
            } else if (draw < 80) {
                ask(random.nextInt(26));
            } else if (draw < 88) {
                feedAndQuery();
            } else if (draw < 90) {
                feedAndLoad(random.nextInt(3) != 0);
            } else if (draw < 96) {
                undoing();
            } else {
                raw();
            }
        }
        for (int i = 0; i < 26; i++) {
            ask(i);
        }
    }

    private void check(String name, java.util.concurrent.Callable<?> one, java.util.concurrent.Callable<?> other) {
        calls++;
        Due.equal("run " + run + " call " + calls + " " + name, Due.answer(one), Due.answer(other));
    }

    /** Mostly from low to high, at times just outside or far off. */
    private int near(int low, int high) {
        int draw = random.nextInt(60);
        if (draw == 0) {
            return low - 1;
        }
        if (draw == 1) {
            return high + 1;
        }
        if (draw == 2) {
            return random.nextBoolean() ? Integer.MIN_VALUE : Integer.MAX_VALUE;
        }
        return high < low ? low : low + random.nextInt(high - low + 1);
    }

    private int net() {
        return near(0, plain.size(0) + plain.size(1) - 1);
    }

    private int gate() {
        return plain.size(1) == 0 || random.nextInt(30) == 0 ? net() : plain.size(0) + random.nextInt(plain.size(1));
    }

    private int time() {
        return near(0, plain.size(2));
    }

    private void operate() {
        int g = gate();
        int d = near(0, plain.size(6) - 1);
        switch (random.nextInt(12)) {
            case 0: case 1: case 2: {
                int party = near(0, 1);
                int index = near(0, 2);
                boolean real = random.nextBoolean();
                check("open", () -> court.open(party, g, index, real), () -> plain.open(party, g, index, real));
                break;
            }
            case 3: case 4: {
                int last = random.nextInt(4) == 0 ? d : plain.size(6) - 1;
                check("judge " + last, () -> court.judge(last), () -> plain.judge(last));
                break;
            }
            case 5: {
                int last = random.nextInt(3) == 0 ? d : plain.size(6) - 1;
                check("appeal " + last, () -> court.appeal(last), () -> plain.appeal(last));
                break;
            }
            case 6: {
                int last = random.nextInt(3) == 0 ? d : plain.size(6) - 1;
                check("accept " + last, () -> court.accept(last), () -> plain.accept(last));
                break;
            }
            case 7: {
                int from = time();
                int to = random.nextInt(4) == 0 ? time() : Math.min(from, 60) + random.nextInt(5);
                check("replay", () -> court.replay(g, from, to), () -> plain.replay(g, from, to));
                break;
            }
            case 8: {
                int which = near(0, 2);
                int delay = near(1, 9);
                if (random.nextInt(3) != 0) {
                    break;
                }
                check("setDelay", () -> court.setDelay(g, which, delay), () -> plain.setDelay(g, which, delay));
                break;
            }
            case 9: {
                int input = near(0, plain.size(0) - 1);
                int t = time();
                if (random.nextInt(3) != 0) {
                    break;
                }
                check("toggle", () -> court.toggle(input, t), () -> plain.toggle(input, t));
                break;
            }
            case 10: {
                int purse = near(0, 2);
                int amount = random.nextInt(3) == 0 ? near(0, 99999) : near(0, 60);
                check("deposit", () -> court.deposit(purse, amount), () -> plain.deposit(purse, amount));
                break;
            }
            default: {
                int limit = near(1, 20);
                check("setLimit", () -> court.setLimit(limit), () -> plain.setLimit(limit));
                break;
            }
        }
    }

    private void ask(int draw) {
        int n = net();
        int g = gate();
        int t = time();
        int to = random.nextInt(3) == 0 ? time() : Math.min(t, 60) + random.nextInt(8);
        int k = near(0, 2);
        int what = near(0, 9);
        int d = near(0, plain.size(6) - 1);
        switch (draw) {
            case 0: check("errorPosition", court::errorPosition, plain::errorPosition); break;
            case 1: check("size", () -> court.size(what), () -> plain.size(what)); break;
            case 2: check("gate", () -> court.gate(g, what), () -> plain.gate(g, what)); break;
            case 3: check("value", () -> court.value(n, t, k), () -> plain.value(n, t, k)); break;
            case 4: check("stateAt", () -> court.stateAt(n, t), () -> plain.stateAt(n, t)); break;
            case 5: everyWave(k); break;
            case 6: check("changes", () -> court.changes(n, k), () -> plain.changes(n, k)); break;
            case 7: check("quietFrom", () -> court.quietFrom(n, k), () -> plain.quietFrom(n, k)); break;
            case 8: check("shortest", () -> court.shortest(n, k), () -> plain.shortest(n, k)); break;
            case 9: check("wrong", () -> court.wrong(n), () -> plain.wrong(n)); break;
            case 10: check("firstWrong", () -> court.firstWrong(n), () -> plain.firstWrong(n)); break;
            case 11: check("allWrong", court::allWrong, plain::allWrong); break;
            case 12: check("worst", court::worst, plain::worst); break;
            case 13: check("dependsOn", () -> court.dependsOn(n), () -> plain.dependsOn(n)); break;
            case 14: check("touches", () -> court.touches(n), () -> plain.touches(n)); break;
            case 15: check("longest", () -> court.longest(n), () -> plain.longest(n)); break;
            case 16: {
                int index = near(0, 2);
                int w = near(0, 4);
                check("pulse", () -> court.pulse(g, index, w), () -> plain.pulse(g, index, w));
                break;
            }
            case 17: check("dispute", () -> court.dispute(d, what), () -> plain.dispute(d, what)); break;
            case 18: {
                int state = near(0, 4);
                check("disputes", () -> court.disputes(state), () -> plain.disputes(state));
                break;
            }
            case 19: check("cost", () -> court.cost(g, t, to), () -> plain.cost(g, t, to)); break;
            case 20: check("gain", () -> court.gain(g, t, to), () -> plain.gain(g, t, to)); break;
            case 21: check("bestReplay", court::bestReplay, plain::bestReplay); break;
            case 22: check("misjudged", court::misjudged, plain::misjudged); break;
            case 23: check("excess", court::excess, plain::excess); break;
            case 24: check("settledShare", court::settledShare, plain::settledShare); break;
            default:
                check("format", () -> court.format(n, k), () -> plain.format(n, k));
                for (int i = 0; i < 4; i++) {
                    int at = near(0, 61);
                    check("formattedByte", () -> court.formattedByte(at), () -> plain.formattedByte(at));
                }
                break;
        }
    }

    private void everyWave(int kind) {
        for (int net = 0; net < plain.size(0) + plain.size(1); net++) {
            int n = net;
            check("wave " + n + " " + kind, () -> court.wave(n, kind), () -> plain.wave(n, kind));
        }
    }

    private void undoing() {
        switch (random.nextInt(6)) {
            case 0: check("undoCount", court::undoCount, plain::undoCount); break;
            case 1:
                court.saveSnapshot();
                plain.saveSnapshot();
                break;
            case 2: check("restoreSnapshot", court::restoreSnapshot, plain::restoreSnapshot); break;
            default: check("undo", court::undo, plain::undo); break;
        }
    }

    /** Reading with a length that does not fit, and feeding bytes of any kind. */
    private void raw() {
        int a = random.nextInt();
        switch (random.nextInt(3)) {
            case 0: {
                int length = near(-1, 21);
                check("load " + length, () -> court.load(length), () -> plain.load(length));
                break;
            }
            case 1: {
                int length = near(-1, 201);
                check("query " + length, () -> court.query(length), () -> plain.query(length));
                break;
            }
            default: {
                int times = random.nextInt(8) == 0 ? 31 : 1;
                for (int i = 0; i < times; i++) {
                    check("feed", () -> court.feed(a, 1, -1, 0, a), () -> plain.feed(a, 1, -1, 0, a));
                }
                break;
            }
        }
    }

    private int feedText(String text) {
        byte[] bytes = text.getBytes(StandardCharsets.ISO_8859_1);
        for (int[] f : Due.feeds(bytes)) {
            check("feed", () -> court.feed(f[0], f[1], f[2], f[3], f[4]),
                    () -> plain.feed(f[0], f[1], f[2], f[3], f[4]));
        }
        return bytes.length;
    }

    private void emptyBuffer() {
        check("load 0", () -> court.load(0), () -> plain.load(0));
    }

    private void feedAndLoad(boolean spoil) {
        emptyBuffer();
        String text = benchText();
        if (spoil) {
            text = spoilt(text);
        }
        if (text.length() > 600) {
            return;
        }
        String read = text;
        int length = feedText(text);
        check("load of " + read, () -> court.load(length), () -> plain.load(length));
        check("errorPosition", court::errorPosition, plain::errorPosition);
    }

    private void feedAndQuery() {
        emptyBuffer();
        String text = (random.nextBoolean() ? "many " : "first ") + test(random.nextInt(5));
        if (random.nextInt(4) == 0) {
            text = spoilt(text);
        }
        if (text.length() > 200) {
            text = text.substring(0, 200);
        }
        String read = text;
        int length = feedText(text);
        check("query of " + read, () -> court.query(length), () -> plain.query(length));
        check("errorPosition", court::errorPosition, plain::errorPosition);
    }

    private int between(int low, int high) {
        return low + random.nextInt(high - low + 1);
    }

    private String benchText() {
        int horizon = random.nextInt(8) == 0 ? between(4, 60) : between(10, 40);
        if (random.nextInt(10) == 0) {
            horizon = random.nextBoolean() ? 4 : 60;
        }
        StringBuilder s = new StringBuilder("bench ").append(horizon).append(' ').append(between(1, 20)).append(' ')
                .append(between(0, 9)).append(' ').append(between(0, random.nextBoolean() ? 5 : 99)).append(';');
        int inputs = between(1, 4);
        for (int i = 0; i < inputs; i++) {
            s.append("input ").append(random.nextInt(2));
            for (int t = between(1, 4); t <= horizon; t += between(1, random.nextInt(4) == 0 ? 9 : 4)) {
                s.append(' ').append(t);
            }
            s.append(';');
        }
        int gates = random.nextInt(6) == 0 ? 12 : between(0, 9);
        for (int i = 0; i < gates; i++) {
            int kind = random.nextInt(7);
            s.append("gate ").append(KINDS[kind]).append(' ').append(random.nextInt(inputs + i));
            if (kind < 5) {
                s.append(' ').append(random.nextInt(inputs + i));
            }
            for (int j = 0; j < 3; j++) {
                s.append(' ').append(random.nextInt(3) == 0 ? between(1, 9) : between(1, 3));
            }
            s.append(';');
        }
        if (random.nextInt(5) != 0) {
            int most = random.nextInt(3) == 0 ? 99999 : 300;
            s.append("purses ").append(between(0, most)).append(' ').append(between(0, most)).append(' ')
                    .append(between(0, most)).append(';');
        }
        return s.toString();
    }

    /** A text with a token put in, taken away or put in place of another, or cut off. */
    private String spoilt(String text) {
        String scrap = SCRAPS[random.nextInt(SCRAPS.length)];
        int at = random.nextInt(text.length() + 1);
        int end = at;
        while (end < text.length() && Character.isLetterOrDigit(text.charAt(end))) {
            end++;
        }
        if (end == at && end < text.length()) {
            end++;
        }
        switch (random.nextInt(5)) {
            case 0: return text.substring(0, at);
            case 1: return text.substring(0, at) + text.substring(end);
            case 2: return text.substring(0, at) + scrap + text.substring(at);
            case 3: return text + " " + scrap;
            default: return text.substring(0, at) + " " + scrap + " " + text.substring(end);
        }
    }

    private String test(int depth) {
        StringBuilder s = new StringBuilder(conjunction(depth));
        while (random.nextInt(4) == 0) {
            s.append(" or ").append(conjunction(depth));
        }
        return s.toString();
    }

    private String conjunction(int depth) {
        StringBuilder s = new StringBuilder(factor(depth));
        while (random.nextInt(4) == 0) {
            s.append(" and ").append(factor(depth));
        }
        return s.toString();
    }

    private String factor(int depth) {
        int draw = random.nextInt(5);
        if (depth > 0 && draw < 2) {
            return "not " + factor(depth - 1);
        }
        if (depth > 0 && draw < 4) {
            return "(" + test(depth - 1) + ")";
        }
        if (random.nextInt(12) == 0) {
            return random.nextBoolean() ? "not " + factor(2) : "(" + factor(2) + ")";
        }
        return operand() + "<=>".charAt(random.nextInt(3)) + operand();
    }

    private String operand() {
        return random.nextInt(3) == 0 ? "" + random.nextInt(random.nextInt(5) == 0 ? 10001 : 8)
                : PROPERTIES[random.nextInt(PROPERTIES.length)];
    }
}
