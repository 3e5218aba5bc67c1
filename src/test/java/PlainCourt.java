import java.util.ArrayList;
import java.util.List;
import java.util.NoSuchElementException;

/**
 * The document said again in the plainest way, time by time and with copies of everything, for comparison
 * with the program. It shares no way of counting with it: no bits, no kept waves, recursion in the query.
 */
final class PlainCourt {
    private static final class Broken extends RuntimeException {
        final int code;
        final int at;

        Broken(int code, int at) {
            this.code = code;
            this.at = at;
        }
    }

    private static final class Token {
        String text;
        int at;
        boolean isWord;
        boolean isNumber;
        boolean isEnd;
    }

    private static final class Case implements Cloneable {
        int net;
        int first;
        int last;
        int value;
        int party;
        boolean real;
        int state;
        int verdict = -1;

        Case copy() {
            try {
                return (Case) clone();
            } catch (CloneNotSupportedException e) {
                throw new IllegalStateException(e);
            }
        }
    }

    /** The whole bench; it is copied before each operation. */
    private static final class World {
        int horizon = 4;
        int limit = 1;
        int rate = 1;
        int fee = 1;
        int inputs = 1;
        List<int[]> inputWaves = new ArrayList<>();
        List<int[]> gates = new ArrayList<>(); // kind, first, second, rise, fall, cheap
        boolean[][] settled = new boolean[16][61];
        int[][] ruled = new int[16][61]; // -1 not ruled, otherwise the value
        int[] purses = new int[3];
        List<Case> cases = new ArrayList<>();

        World() {
            for (int[] row : ruled) {
                java.util.Arrays.fill(row, -1);
            }
        }

        World copy() {
            World w = new World();
            w.horizon = horizon;
            w.limit = limit;
            w.rate = rate;
            w.fee = fee;
            w.inputs = inputs;
            for (int[] x : inputWaves) {
                w.inputWaves.add(x.clone());
            }
            for (int[] x : gates) {
                w.gates.add(x.clone());
            }
            for (int i = 0; i < 16; i++) {
                w.settled[i] = settled[i].clone();
                w.ruled[i] = ruled[i].clone();
            }
            w.purses = purses.clone();
            for (Case c : cases) {
                w.cases.add(c.copy());
            }
            return w;
        }

        int nets() {
            return inputs + gates.size();
        }

        int[] gate(int net) {
            return gates.get(net - inputs);
        }

        boolean depends(int on, int gate) {
            if (gate < inputs) {
                return false;
            }
            if (on == gate) {
                return true;
            }
            int[] g = gate(gate);
            return depends(on, g[1]) || g[2] >= 0 && depends(on, g[2]);
        }

        int cone(int gate) {
            int n = 0;
            for (int k = inputs; k < nets(); k++) {
                n += depends(k, gate) ? 1 : 0;
            }
            return n;
        }

        int ideal(int net, int[][] waves, int time) {
            int[] g = gate(net);
            int a = waves[g[1]][time];
            int b = g[2] < 0 ? 0 : waves[g[2]][time];
            switch (g[0]) {
                case 0: return a * b;
                case 1: return a + b > 0 ? 1 : 0;
                case 2: return a == b ? 0 : 1;
                case 3: return 1 - a * b;
                case 4: return a + b > 0 ? 0 : 1;
                case 5: return 1 - a;
                default: return a;
            }
        }

        int[][] waves(int kind) {
            int[][] waves = new int[nets()][horizon + 1];
            int[][] dear = kind == 0 ? waves(2) : waves;
            for (int net = 0; net < nets(); net++) {
                for (int t = 0; t <= horizon; t++) {
                    if (net < inputs) {
                        waves[net][t] = inputWaves.get(net)[t];
                    } else if (kind == 2) {
                        waves[net][t] = dearAt(net, waves, t);
                    } else {
                        int late = t - gate(net)[5];
                        waves[net][t] = ideal(net, waves, late < 0 ? 0 : late);
                        if (kind == 0 && ruled[net][t] >= 0) {
                            waves[net][t] = ruled[net][t];
                        }
                        if (kind == 0 && settled[net][t]) {
                            waves[net][t] = dear[net][t];
                        }
                    }
                }
            }
            return waves;
        }

        int dearAt(int net, int[][] waves, int t) {
            int wanted = ideal(net, waves, t);
            if (t == 0) {
                return wanted;
            }
            int own = waves[net][t - 1];
            if (wanted == own) {
                return own;
            }
            int d = wanted == 1 ? gate(net)[3] : gate(net)[4];
            if (t - d < 0) {
                return own;
            }
            for (int s = t - d; s <= t; s++) {
                if (ideal(net, waves, s) != wanted) {
                    return own;
                }
            }
            return wanted;
        }

        /** The runs of a wave: first, last. */
        List<int[]> runs(int[] wave) {
            List<int[]> runs = new ArrayList<>();
            for (int t = 0; t <= horizon; t++) {
                if (t == 0 || wave[t] != wave[t - 1]) {
                    runs.add(new int[] {t, t});
                } else {
                    runs.get(runs.size() - 1)[1] = t;
                }
            }
            return runs;
        }

        List<int[]> pulses(int net) {
            List<int[]> found = new ArrayList<>();
            if (net < inputs) {
                return found;
            }
            for (int[] run : runs(waves(0)[net])) {
                boolean free = false;
                for (int t = run[0]; t <= run[1]; t++) {
                    free |= !settled[net][t] && ruled[net][t] < 0;
                }
                if (run[0] != 0 && run[1] != horizon && run[1] - run[0] + 1 <= limit && free) {
                    found.add(run);
                }
            }
            return found;
        }

        int marked(int net, int mark) {
            int n = 0;
            for (int t = 0; t <= horizon; t++) {
                n += mark(net, t) == mark ? 1 : 0;
            }
            return n;
        }

        int mark(int net, int t) {
            return settled[net][t] ? 2 : ruled[net][t] >= 0 ? 1 : 0;
        }

        int wrong(int net) {
            int n = 0;
            int[] a = waves(0)[net];
            int[] b = waves(2)[net];
            for (int t = 0; t <= horizon; t++) {
                n += a[t] != b[t] ? 1 : 0;
            }
            return n;
        }

        int allWrong() {
            int n = 0;
            int[][] a = waves(0);
            int[][] b = waves(2);
            for (int net = 0; net < nets(); net++) {
                for (int t = 0; t <= horizon; t++) {
                    n += a[net][t] != b[net][t] ? 1 : 0;
                }
            }
            return n;
        }

        int price(int net, int times) {
            return rate * times * cone(net);
        }

        int loser(Case c, int verdict) {
            if (verdict < 0) {
                return -1;
            }
            int claimsReal = c.real ? c.party : 1 - c.party;
            return verdict == 1 ? 1 - claimsReal : claimsReal;
        }

        int cheapVerdict(int net, int times, int value) {
            return times > (value == 1 ? gate(net)[3] : gate(net)[4]) ? 1 : 0;
        }

        int dearVerdict(Case c) {
            int[] wave = waves(2)[c.net];
            for (int t = c.first; t <= c.last; t++) {
                if (wave[t] == c.value) {
                    return 1;
                }
            }
            return 0;
        }

        boolean touched(int gate, int net) {
            if (gate < inputs) {
                return false;
            }
            if (net >= inputs) {
                return depends(net, gate);
            }
            int[] g = gate(gate);
            return g[1] == net || g[2] == net || touched(g[1], net) || g[2] >= 0 && touched(g[2], net);
        }

        int changed(int net) {
            int dropped = 0;
            for (int g = inputs; g < nets(); g++) {
                if (touched(g, net)) {
                    for (int t = 0; t <= horizon; t++) {
                        settled[g][t] = false;
                        ruled[g][t] = -1;
                    }
                    for (Case c : cases) {
                        if (c.net == g && (c.state == 0 || c.state == 1)) {
                            c.state = 4;
                            dropped++;
                        }
                    }
                }
            }
            return dropped;
        }

        int longest(int net) {
            if (net < inputs) {
                return 0;
            }
            int[] g = gate(net);
            return Math.max(g[3], g[4]) + Math.max(longest(g[1]), g[2] < 0 ? 0 : longest(g[2]));
        }
    }

    private World world = new World();
    private List<World> history = new ArrayList<>();
    private World snapshot = null;
    private List<Integer> buffer = new ArrayList<>();
    private int errorAt = -1;
    private String formatted = "";

    PlainCourt() {
        world.inputWaves.add(new int[61]);
    }

    // Texts

    int feed(int a, int b, int c, int d, int e) {
        if (buffer.size() + 20 > 600) {
            return -1;
        }
        for (int word : new int[] {a, b, c, d, e}) {
            for (byte x : java.nio.ByteBuffer.allocate(4).putInt(word).array()) {
                buffer.add(x & 255);
            }
        }
        return buffer.size();
    }

    private List<Token> tokens(int length) {
        StringBuilder all = new StringBuilder();
        for (int i = 0; i < length; i++) {
            all.append((char) buffer.get(i).intValue());
        }
        List<Token> list = new ArrayList<>();
        java.util.regex.Matcher m =
                java.util.regex.Pattern.compile("([a-z]+)|([0-9]+)|([^ \\n])", java.util.regex.Pattern.DOTALL)
                        .matcher(all);
        while (m.find()) {
            Token t = new Token();
            t.text = m.group();
            t.at = m.start();
            t.isWord = m.group(1) != null;
            t.isNumber = m.group(2) != null;
            list.add(t);
        }
        Token end = new Token();
        end.text = "";
        end.at = length;
        end.isEnd = true;
        list.add(end);
        return list;
    }

    private List<Token> list;
    private int at;

    private Token next() {
        return list.get(at);
    }

    private boolean is(String text) {
        return !next().isEnd && next().text.equals(text);
    }

    private void expect(String text) {
        if (!is(text)) {
            throw new Broken(1, next().at);
        }
        at++;
    }

    private int number(int low, int high) {
        Token t = next();
        if (!t.isNumber) {
            throw new Broken(1, t.at);
        }
        java.math.BigInteger n = new java.math.BigInteger(t.text);
        if (n.compareTo(java.math.BigInteger.valueOf(low)) < 0
                || n.compareTo(java.math.BigInteger.valueOf(high)) > 0) {
            throw new Broken(2, t.at);
        }
        at++;
        return n.intValue();
    }

    int load(int length) {
        if (length < 0 || length > buffer.size()) {
            throw new IllegalArgumentException();
        }
        list = tokens(length);
        at = 0;
        buffer.clear();
        try {
            World read = readWorld();
            world = read;
            history.clear();
            snapshot = null;
            errorAt = -1;
            return world.nets();
        } catch (Broken b) {
            errorAt = b.at;
            return -10 - b.code;
        }
    }

    private World readWorld() {
        World w = new World();
        expect("bench");
        w.horizon = number(4, 60);
        w.limit = number(1, 20);
        w.rate = number(0, 9);
        w.fee = number(0, 99);
        expect(";");
        w.inputs = 0;
        do {
            if (is("input") && w.inputs == 4) {
                throw new Broken(3, next().at);
            }
            expect("input");
            w.inputWaves.add(readWave(w.horizon));
            w.inputs++;
        } while (is("input"));
        while (is("gate")) {
            if (w.gates.size() == 12) {
                throw new Broken(3, next().at);
            }
            at++;
            w.gates.add(readGate(w.nets()));
        }
        if (is("purses")) {
            at++;
            w.purses = new int[] {number(0, 99999), number(0, 99999), number(0, 99999)};
            expect(";");
        }
        if (!next().isEnd) {
            throw new Broken(1, next().at);
        }
        return w;
    }

    private int[] readWave(int horizon) {
        int[] wave = new int[61];
        java.util.Arrays.fill(wave, number(0, 1));
        int before = 0;
        while (next().isNumber) {
            int where = next().at;
            int t = number(1, horizon);
            if (t <= before) {
                throw new Broken(4, where);
            }
            before = t;
            for (int s = t; s < 61; s++) {
                wave[s] = 1 - wave[s];
            }
        }
        expect(";");
        return wave;
    }

    private int[] readGate(int nets) {
        int kind = List.of("and", "or", "xor", "nand", "nor", "not", "same").indexOf(next().text);
        if (kind < 0) {
            throw new Broken(1, next().at);
        }
        at++;
        int first = number(0, nets - 1);
        int second = kind < 5 ? number(0, nets - 1) : -1;
        int[] gate = {kind, first, second, number(1, 9), number(1, 9), number(1, 9)};
        expect(";");
        return gate;
    }

    int errorPosition() {
        return errorAt;
    }

    // Answers

    private NoSuchElementException none() {
        return new NoSuchElementException();
    }

    private void needGate(int net) {
        if (net < world.inputs || net >= world.nets()) {
            throw none();
        }
    }

    private void needNet(int net) {
        if (net < 0 || net >= world.nets()) {
            throw none();
        }
    }

    private void needTimes(int from, int to) {
        if (from < 0 || from > world.horizon || to < 0 || to > world.horizon || to < from) {
            throw new IllegalArgumentException();
        }
    }

    private void needBetween(int x, int low, int high) {
        if (x < low || x > high) {
            throw none();
        }
    }

    private int[] needWave(int net, int kind) {
        needNet(net);
        needBetween(kind, 0, 2);
        return world.waves(kind)[net];
    }

    int size(int what) {
        needBetween(what, 0, 9);
        World w = world;
        return new int[] {w.inputs, w.gates.size(), w.horizon, w.limit, w.rate, w.fee, w.cases.size(),
            w.purses[0], w.purses[1], w.purses[2]}[what];
    }

    int gate(int net, int what) {
        needGate(net);
        needBetween(what, 0, 9);
        if (what < 6) {
            return world.gate(net)[what];
        }
        return what == 6 ? world.cone(net) : what == 7 ? world.marked(net, 2)
                : what == 8 ? world.marked(net, 1) : world.pulses(net).size();
    }

    int value(int net, int time, int kind) {
        int[] wave = needWave(net, kind);
        needBetween(time, 0, world.horizon);
        return wave[time];
    }

    int stateAt(int net, int time) {
        needNet(net);
        needBetween(time, 0, world.horizon);
        return world.mark(net, time);
    }

    long wave(int net, int kind) {
        long sum = 0;
        int[] wave = needWave(net, kind);
        for (int t = world.horizon; t >= 0; t--) {
            sum = 2 * sum + wave[t];
        }
        return sum;
    }

    int changes(int net, int kind) {
        return world.runs(needWave(net, kind)).size() - 1;
    }

    int quietFrom(int net, int kind) {
        List<int[]> runs = world.runs(needWave(net, kind));
        return runs.get(runs.size() - 1)[0];
    }

    int shortest(int net, int kind) {
        int least = -1;
        for (int[] run : world.runs(needWave(net, kind))) {
            int n = run[1] - run[0] + 1;
            if (run[0] != 0 && run[1] != world.horizon && (least < 0 || n < least)) {
                least = n;
            }
        }
        return least;
    }

    int wrong(int net) {
        needNet(net);
        return world.wrong(net);
    }

    int firstWrong(int net) {
        needNet(net);
        for (int t = 0; t <= world.horizon; t++) {
            if (world.waves(0)[net][t] != world.waves(2)[net][t]) {
                return t;
            }
        }
        return -1;
    }

    int allWrong() {
        return world.allWrong();
    }

    int worst() {
        int best = 0;
        for (int net = 0; net < world.nets(); net++) {
            best = world.wrong(net) > world.wrong(best) ? net : best;
        }
        return best;
    }

    int dependsOn(int net) {
        needGate(net);
        int set = 0;
        for (int k = world.inputs; k < world.nets(); k++) {
            set += world.depends(k, net) ? 1 << k : 0;
        }
        return set;
    }

    int touches(int net) {
        needNet(net);
        int set = 0;
        for (int k = world.inputs; k < world.nets(); k++) {
            set += world.touched(k, net) ? 1 << k : 0;
        }
        return set;
    }

    int longest(int net) {
        needNet(net);
        return world.longest(net);
    }

    private int[] needPulse(int net, int index) {
        needGate(net);
        List<int[]> pulses = world.pulses(net);
        needBetween(index, 0, pulses.size() - 1);
        return pulses.get(index);
    }

    int pulse(int net, int index, int what) {
        int[] p = needPulse(net, index);
        needBetween(what, 0, 4);
        int times = p[1] - p[0] + 1;
        int value = world.waves(0)[net][p[0]];
        return new int[] {p[0], p[1], value, world.price(net, times), world.cheapVerdict(net, times, value)}[what];
    }

    private Case needCase(int number) {
        needBetween(number, 0, world.cases.size() - 1);
        return world.cases.get(number);
    }

    int dispute(int number, int what) {
        Case c = needCase(number);
        needBetween(what, 0, 9);
        return new int[] {c.net, c.first, c.last, c.value, c.party, c.real ? 1 : 0, c.state, c.verdict,
            world.loser(c, c.verdict), world.price(c.net, c.last - c.first + 1)}[what];
    }

    int disputes(int state) {
        if (state < 0 || state > 4) {
            throw new IllegalArgumentException();
        }
        int n = 0;
        for (Case c : world.cases) {
            n += c.state == state ? 1 : 0;
        }
        return n;
    }

    int cost(int net, int from, int to) {
        needGate(net);
        needTimes(from, to);
        return world.price(net, to - from + 1);
    }

    private int gainOf(int net, int from, int to) {
        World w = world.copy();
        for (int t = from; t <= to; t++) {
            w.settled[net][t] = true;
        }
        return world.allWrong() - w.allWrong();
    }

    int gain(int net, int from, int to) {
        needGate(net);
        needTimes(from, to);
        return gainOf(net, from, to);
    }

    int bestReplay() {
        int[] best = null; // minus gain, price, number
        for (int net = world.inputs; net < world.nets(); net++) {
            List<int[]> pulses = world.pulses(net);
            for (int i = 0; i < pulses.size(); i++) {
                int[] p = pulses.get(i);
                int[] row = {-gainOf(net, p[0], p[1]), world.price(net, p[1] - p[0] + 1), 100 * net + i};
                if (row[0] < 0 && row[1] <= world.purses[2]
                        && (best == null || java.util.Arrays.compare(row, best) < 0)) {
                    best = row;
                }
            }
        }
        return best == null ? -1 : best[2];
    }

    int misjudged() {
        int n = 0;
        for (Case c : world.cases) {
            n += c.verdict >= 0 && c.verdict != world.dearVerdict(c) ? 1 : 0;
        }
        return n;
    }

    double excess() {
        int a = 0;
        int b = 0;
        for (int net = world.inputs; net < world.nets(); net++) {
            a += world.runs(world.waves(0)[net]).size() - 1;
            b += world.runs(world.waves(2)[net]).size() - 1;
        }
        return b == 0 ? 0 : (double) a / b;
    }

    float settledShare() {
        int a = 0;
        int b = 0;
        for (int net = world.inputs; net < world.nets(); net++) {
            a += world.marked(net, 2);
            b += world.horizon + 1;
        }
        return b == 0 ? 0 : (float) a / (float) b;
    }

    // Operations

    private void record() {
        history.add(world.copy());
        if (history.size() > 10) {
            history.remove(0);
        }
    }

    int open(int party, int net, int index, boolean real) {
        int[] p = needPulse(net, index);
        if (party != 0 && party != 1) {
            throw new IllegalArgumentException();
        }
        for (Case c : world.cases) {
            for (int t = p[0]; t <= p[1]; t++) {
                if (c.net == net && c.state < 2 && c.first <= t && t <= c.last) {
                    return -2;
                }
            }
        }
        if (world.cases.size() == 20) {
            return -3;
        }
        record();
        Case c = new Case();
        c.net = net;
        c.first = p[0];
        c.last = p[1];
        c.value = world.waves(0)[net][p[0]];
        c.party = party;
        c.real = real;
        world.cases.add(c);
        return world.cases.size() - 1;
    }

    int judge(int number) {
        Case c = needCase(number);
        if (c.state != 0) {
            return -2;
        }
        int verdict = world.cheapVerdict(c.net, c.last - c.first + 1, c.value);
        int loser = world.loser(c, verdict);
        if (world.purses[loser] < world.fee) {
            return -3;
        }
        record();
        world.purses[loser] -= world.fee;
        world.purses[2] += world.fee;
        c.verdict = verdict;
        c.state = 1;
        return verdict;
    }

    int appeal(int number) {
        Case c = needCase(number);
        if (c.state != 1) {
            return -2;
        }
        int loser = world.loser(c, c.verdict);
        int stake = world.price(c.net, c.last - c.first + 1);
        if (world.purses[loser] < stake) {
            return -3;
        }
        record();
        int verdict = world.dearVerdict(c);
        int payer = verdict == c.verdict ? loser : 1 - loser;
        int paid = Math.min(stake, world.purses[payer]);
        world.purses[payer] -= paid;
        world.purses[2] += paid;
        c.verdict = verdict;
        c.state = 2;
        for (int t = c.first; t <= c.last; t++) {
            world.settled[c.net][t] = true;
        }
        return verdict;
    }

    int accept(int number) {
        Case c = needCase(number);
        if (c.state != 1) {
            return -2;
        }
        record();
        int n = 0;
        for (int t = c.first; t <= c.last; t++) {
            n += world.mark(c.net, t) == 0 ? 1 : 0;
            world.ruled[c.net][t] = c.verdict == 1 ? c.value : 1 - c.value;
        }
        c.state = 3;
        return n;
    }

    int replay(int net, int from, int to) {
        needGate(net);
        needTimes(from, to);
        int price = world.price(net, to - from + 1);
        if (world.purses[2] < price) {
            return -3;
        }
        record();
        world.purses[2] -= price;
        int n = 0;
        for (int t = from; t <= to; t++) {
            n += world.settled[net][t] ? 0 : 1;
            world.settled[net][t] = true;
        }
        return n;
    }

    int setDelay(int net, int which, int delay) {
        needGate(net);
        if (which < 0 || which > 2 || delay < 1 || delay > 9) {
            throw new IllegalArgumentException();
        }
        record();
        int before = world.gate(net)[3 + which];
        world.gate(net)[3 + which] = delay;
        if (before != delay) {
            world.changed(net);
        }
        return before;
    }

    int toggle(int input, int time) {
        needBetween(input, 0, world.inputs - 1);
        if (time < 0 || time > world.horizon) {
            throw new IllegalArgumentException();
        }
        record();
        for (int t = time; t <= world.horizon; t++) {
            world.inputWaves.get(input)[t] = 1 - world.inputWaves.get(input)[t];
        }
        return world.changed(input);
    }

    int deposit(int purse, int amount) {
        if (purse < 0 || purse > 2 || amount < 0 || amount > 99999) {
            throw new IllegalArgumentException();
        }
        if (world.purses[purse] + amount > 1000000) {
            return -3;
        }
        record();
        world.purses[purse] += amount;
        return world.purses[purse];
    }

    int setLimit(int limit) {
        if (limit < 1 || limit > 20) {
            throw new IllegalArgumentException();
        }
        record();
        int before = world.limit;
        world.limit = limit;
        return before;
    }

    int format(int net, int kind) {
        int[] wave = needWave(net, kind);
        StringBuilder s = new StringBuilder();
        for (int t = 0; t <= world.horizon; t++) {
            s.append(new String[] {"01", "lh", "LH"}[kind == 0 ? world.mark(net, t) : 0].charAt(wave[t]));
        }
        formatted = s.toString();
        return formatted.length();
    }

    int formattedByte(int index) {
        return index >= 0 && index < formatted.length() ? formatted.charAt(index) : -1;
    }

    int undoCount() {
        return history.size();
    }

    int undo() {
        if (history.isEmpty()) {
            return -1;
        }
        world = history.remove(history.size() - 1);
        return history.size();
    }

    void saveSnapshot() {
        snapshot = world.copy();
    }

    boolean restoreSnapshot() {
        if (snapshot == null) {
            return false;
        }
        world = snapshot.copy();
        history.clear();
        return true;
    }

    // Queries: the text is read for each net anew

    int query(int length) {
        if (length < 0 || length > 200 || length > buffer.size()) {
            throw new IllegalArgumentException();
        }
        list = tokens(length);
        buffer.clear();
        int count = 0;
        int first = -1;
        boolean many = is0("many");
        try {
            for (int net = world.nets() - 1; net >= 0; net--) {
                at = 0;
                if (!is("many")) {
                    expect("first");
                } else {
                    at++;
                }
                boolean holds = test(net, 0);
                if (!next().isEnd) {
                    throw new Broken(1, next().at);
                }
                if (holds) {
                    count++;
                    first = net;
                }
            }
            errorAt = -1;
            return many ? count : first;
        } catch (Broken b) {
            errorAt = b.at;
            return -1000000000 - b.code;
        }
    }

    private boolean is0(String text) {
        at = 0;
        return is(text);
    }

    private boolean test(int net, int open) {
        boolean holds = conjunction(net, open);
        while (is("or")) {
            at++;
            holds |= conjunction(net, open);
        }
        return holds;
    }

    private boolean conjunction(int net, int open) {
        boolean holds = factor(net, open);
        while (is("and")) {
            at++;
            holds &= factor(net, open);
        }
        return holds;
    }

    private boolean factor(int net, int open) {
        if (is("not") || is("(")) {
            if (open == 6) {
                throw new Broken(3, next().at);
            }
            boolean not = is("not");
            at++;
            if (not) {
                return !factor(net, open + 1);
            }
            boolean holds = test(net, open + 1);
            expect(")");
            return holds;
        }
        int a = operand(net);
        String sign = next().text;
        if (!is("<") && !is("=") && !is(">")) {
            throw new Broken(1, next().at);
        }
        at++;
        int b = operand(net);
        return sign.equals("<") ? a < b : sign.equals("=") ? a == b : a > b;
    }

    private int operand(int net) {
        if (next().isWord) {
            boolean isGate = net >= world.inputs;
            int value;
            switch (next().text) {
                case "net": value = net; break;
                case "kind": value = isGate ? 1 + world.gate(net)[0] : 0; break;
                case "cone": value = isGate ? world.cone(net) : 0; break;
                case "changes": value = changes(net, 0); break;
                case "wrong": value = world.wrong(net); break;
                case "settled": value = world.marked(net, 2); break;
                case "ruled": value = world.marked(net, 1); break;
                case "pulses": value = world.pulses(net).size(); break;
                case "last": value = world.waves(0)[net][world.horizon]; break;
                default: throw new Broken(1, next().at);
            }
            at++;
            return value;
        }
        return number(0, 9999);
    }
}
