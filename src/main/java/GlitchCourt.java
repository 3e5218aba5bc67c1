import java.util.Arrays;
import java.util.NoSuchElementException;

/**
 * A bench for logic circuits whose short pulses two parties dispute before a court.
 * A wave is held as a long: bit t is its value at time t. A set of nets is held as an int: bit k stands for net k.
 */
public final class GlitchCourt {
    public static final int NONE = -1;
    public static final int HIDDEN = -1000000000;

    private static final int MAX_INPUTS = 4;
    private static final int MAX_GATES = 12;
    private static final int MAX_NETS = 16;
    private static final int MIN_HORIZON = 4;
    private static final int MAX_HORIZON = 60;
    private static final int MAX_LIMIT = 20;
    private static final int MAX_RATE = 9;
    private static final int MAX_FEE = 99;
    private static final int MAX_DELAY = 9;
    private static final int MAX_DISPUTES = 20;
    private static final int MAX_UNDO = 10;
    private static final int MAX_BUFFER = 600;
    private static final int MAX_QUERY = 200;
    private static final int MAX_OPEN = 6;
    private static final int MAX_AMOUNT = 99999;
    private static final int MAX_PURSE = 1000000;

    private static final int KINDS = 7;
    private static final int FIRST_UNARY_KIND = 5;

    private static final int SHOWN = 0;
    private static final int CHEAP = 1;
    private static final int DEAR = 2;

    private static final int RISE = 0;
    private static final int FALL = 1;
    private static final int LATE = 2;
    private static final int DELAYS = 3;

    private static final int COURT = 2;
    private static final int PURSES = 3;

    private static final int OPEN = 0;
    private static final int JUDGED = 1;
    private static final int APPEALED = 2;
    private static final int ACCEPTED = 3;
    private static final int DROPPED = 4;

    private static final int SWALLOWED = 0;
    private static final int REAL = 1;

    private static final int WRONG_STATE = -2;
    private static final int TOO_LITTLE = -3;

    private static final int NOT_ALLOWED = 1;
    private static final int OUT_OF_RANGE = 2;
    private static final int TOO_MANY = 3;
    private static final int NOT_ASCENDING = 4;
    private static final int LOAD_ERRORS = -10;

    private static final int NUMBERS = 10000;
    private static final int PROPERTIES = 9;

    private final History history;
    private final Tokens tokens;
    private final QueryText queryText;
    private final byte[] buffer;
    private final byte[] formatted;
    private Bench bench;
    private Bench draft;
    private int buffered;
    private int formattedLength;
    private int errorAt;

    public GlitchCourt() {
        history = new History();
        tokens = new Tokens();
        queryText = new QueryText();
        buffer = new byte[MAX_BUFFER];
        formatted = new byte[MAX_HORIZON + 1];
        bench = new Bench();
        draft = new Bench();
        buffered = 0;
        formattedLength = 0;
        errorAt = NONE;
    }

    // The buffer and the text of a bench

    public int feed(int a, int b, int c, int d, int e) {
        if (buffered > MAX_BUFFER - 20) {
            return NONE;
        }
        putBytes(a);
        putBytes(b);
        putBytes(c);
        putBytes(d);
        putBytes(e);
        return buffered;
    }

    private void putBytes(int word) {
        for (int shift = 24; shift >= 0 && buffered < MAX_BUFFER; shift -= 8) {
            buffer[buffered] = (byte) (word >>> shift);
            buffered++;
        }
    }

    public int load(int length) throws IllegalArgumentException {
        if (length < 0 || length > buffered) {
            throw new IllegalArgumentException("length");
        }
        // The text is read into the draft, so that an error in it leaves the bench as it is.
        tokens.begin(buffer, length);
        draft.clear();
        BenchText.read(tokens, draft);
        buffered = 0;
        errorAt = tokens.errorAt;
        if (tokens.failed()) {
            return LOAD_ERRORS - tokens.errorCode;
        }
        Bench former = bench;
        bench = draft;
        draft = former;
        bench.refresh();
        history.discardAll();
        return bench.circuit.nets();
    }

    public int errorPosition() {
        return errorAt;
    }

    // Numbers of the bench and its gates

    public int size(int what) throws NoSuchElementException {
        switch (what) {
            case 0: return bench.circuit.inputs;
            case 1: return bench.circuit.gates;
            case 2: return bench.circuit.horizon;
            case 3: return bench.state.limit;
            case 4: return bench.circuit.rate;
            case 5: return bench.circuit.fee;
            case 6: return bench.state.disputeCount;
            case 7: return bench.state.purses[0];
            case 8: return bench.state.purses[1];
            case 9: return bench.state.purses[COURT];
            default: throw new NoSuchElementException("what");
        }
    }

    public int gate(int net, int what) throws NoSuchElementException {
        requireGate(net);
        switch (what) {
            case 0: return bench.circuit.kinds[net];
            case 1: return bench.circuit.firstNets[net];
            case 2: return bench.circuit.secondNets[net];
            case 3: return bench.state.delays[RISE][net];
            case 4: return bench.state.delays[FALL][net];
            case 5: return bench.state.delays[LATE][net];
            case 6: return bench.circuit.cone(net);
            case 7: return bench.state.settledTimes(net);
            case 8: return bench.state.ruledTimes(net);
            case 9: return bench.pulses(net);
            default: throw new NoSuchElementException("what");
        }
    }

    private void requireGate(int net) {
        if (!bench.circuit.hasGate(net)) {
            throw new NoSuchElementException("gate");
        }
    }

    private void requireNet(int net) {
        if (!bench.circuit.hasNet(net)) {
            throw new NoSuchElementException("net");
        }
    }

    private void requireTimes(int from, int to) {
        if (!bench.circuit.hasTime(from) || !bench.circuit.hasTime(to) || to < from) {
            throw new IllegalArgumentException("times");
        }
    }

    // Waves

    private long requireWave(int net, int kind) {
        requireNet(net);
        switch (kind) {
            case SHOWN: return bench.shown[net];
            case CHEAP: return bench.cheap[net];
            case DEAR: return bench.dear[net];
            default: throw new NoSuchElementException("kind");
        }
    }

    public int value(int net, int time, int kind) throws NoSuchElementException {
        long bits = requireWave(net, kind);
        if (!bench.circuit.hasTime(time)) {
            throw new NoSuchElementException("time");
        }
        return bitOf(bits, time);
    }

    public int stateAt(int net, int time) throws NoSuchElementException {
        requireNet(net);
        if (!bench.circuit.hasTime(time)) {
            throw new NoSuchElementException("time");
        }
        return bench.state.timeState(net, time);
    }

    public long wave(int net, int kind) throws NoSuchElementException {
        return requireWave(net, kind);
    }

    public int changes(int net, int kind) throws NoSuchElementException {
        return changesOf(requireWave(net, kind), bench.circuit.horizon);
    }

    public int quietFrom(int net, int kind) throws NoSuchElementException {
        long bits = requireWave(net, kind);
        int time = bench.circuit.horizon;
        while (time > 0 && bitOf(bits, time - 1) == bitOf(bits, time)) {
            time--;
        }
        return time;
    }

    public int shortest(int net, int kind) throws NoSuchElementException {
        long bits = requireWave(net, kind);
        int least = NONE;
        int start = 0;
        for (int time = 1; time <= bench.circuit.horizon; time++) {
            if (bitOf(bits, time) != bitOf(bits, time - 1)) {
                if (start > 0 && (least == NONE || time - start < least)) {
                    least = time - start;
                }
                start = time;
            }
        }
        return least;
    }

    public int wrong(int net) throws NoSuchElementException {
        requireNet(net);
        return Long.bitCount(bench.wrongTimes(net));
    }

    public int firstWrong(int net) throws NoSuchElementException {
        requireNet(net);
        long times = bench.wrongTimes(net);
        return times == 0L ? NONE : Long.numberOfTrailingZeros(times);
    }

    public int allWrong() {
        return bench.wrongSum(bench.shown);
    }

    public int worst() {
        int found = 0;
        for (int net = 1; net < bench.circuit.nets(); net++) {
            if (Long.bitCount(bench.wrongTimes(net)) > Long.bitCount(bench.wrongTimes(found))) {
                found = net;
            }
        }
        return found;
    }

    // The circuit's shape

    public int dependsOn(int net) throws NoSuchElementException {
        requireGate(net);
        return bench.circuit.cones[net];
    }

    public int touches(int net) throws NoSuchElementException {
        requireNet(net);
        return bench.circuit.touchedBy(net);
    }

    public int longest(int net) throws NoSuchElementException {
        requireNet(net);
        return bench.paths[net];
    }

    // Pulses and disputes

    private int requirePulse(int net, int index) {
        requireGate(net);
        int first = bench.pulseStart(net, index);
        if (first == NONE) {
            throw new NoSuchElementException("pulse");
        }
        return first;
    }

    private Dispute requireDispute(int number) {
        if (number < 0 || number >= bench.state.disputeCount) {
            throw new NoSuchElementException("dispute");
        }
        return bench.state.disputes[number];
    }

    public int pulse(int net, int index, int what) throws NoSuchElementException {
        int first = requirePulse(net, index);
        int last = bench.runEnd(net, first);
        int level = bitOf(bench.shown[net], first);
        switch (what) {
            case 0: return first;
            case 1: return last;
            case 2: return level;
            case 3: return bench.price(net, first, last);
            case 4: return bench.cheapVerdict(net, last - first + 1, level);
            default: throw new NoSuchElementException("what");
        }
    }

    public int dispute(int dispute, int what) throws NoSuchElementException {
        Dispute asked = requireDispute(dispute);
        switch (what) {
            case 0: return asked.net;
            case 1: return asked.first;
            case 2: return asked.last;
            case 3: return asked.level;
            case 4: return asked.party;
            case 5: return asked.claimsReal ? 1 : 0;
            case 6: return asked.stage;
            case 7: return asked.verdict;
            case 8: return asked.loserBy(asked.verdict);
            case 9: return bench.price(asked.net, asked.first, asked.last);
            default: throw new NoSuchElementException("what");
        }
    }

    public int disputes(int state) throws IllegalArgumentException {
        if (state < OPEN || state > DROPPED) {
            throw new IllegalArgumentException("state");
        }
        int count = 0;
        for (int i = 0; i < bench.state.disputeCount; i++) {
            if (bench.state.disputes[i].stage == state) {
                count++;
            }
        }
        return count;
    }

    public int cost(int net, int from, int to) throws NoSuchElementException, IllegalArgumentException {
        requireGate(net);
        requireTimes(from, to);
        return bench.price(net, from, to);
    }

    public int gain(int net, int from, int to) throws NoSuchElementException, IllegalArgumentException {
        requireGate(net);
        requireTimes(from, to);
        return bench.gainOf(net, from, to);
    }

    public int bestReplay() {
        int best = NONE;
        int bestGain = 0;
        int bestPrice = 0;
        for (int net = bench.circuit.inputs; net < bench.circuit.nets(); net++) {
            int count = bench.pulses(net);
            for (int index = 0; index < count; index++) {
                int first = bench.pulseStart(net, index);
                int last = bench.runEnd(net, first);
                int price = bench.price(net, first, last);
                int less = price > bench.state.purses[COURT] ? 0 : bench.gainOf(net, first, last);
                // The pulses come in ascending order of their numbers: on a tie in both the former one stays.
                if (less > bestGain || less > 0 && less == bestGain && price < bestPrice) {
                    best = 100 * net + index;
                    bestGain = less;
                    bestPrice = price;
                }
            }
        }
        return best;
    }

    public int misjudged() {
        int count = 0;
        for (int i = 0; i < bench.state.disputeCount; i++) {
            Dispute each = bench.state.disputes[i];
            if (each.verdict != NONE && each.verdict != bench.dearVerdict(each)) {
                count++;
            }
        }
        return count;
    }

    public double excess() {
        int shownChanges = bench.gateChanges(bench.shown);
        int dearChanges = bench.gateChanges(bench.dear);
        return dearChanges == 0 ? 0.0 : (double) shownChanges / (double) dearChanges;
    }

    public float settledShare() {
        int settled = 0;
        for (int net = bench.circuit.inputs; net < bench.circuit.nets(); net++) {
            settled += bench.state.settledTimes(net);
        }
        int times = bench.circuit.gates * (bench.circuit.horizon + 1);
        return times == 0 ? 0.0f : (float) settled / (float) times;
    }

    // Operations

    public int open(int party, int net, int index, boolean real)
            throws NoSuchElementException, IllegalArgumentException {
        int first = requirePulse(net, index);
        if (party != 0 && party != 1) {
            throw new IllegalArgumentException("party");
        }
        int last = bench.runEnd(net, first);
        if (bench.state.hasPending(net, first, last)) {
            return WRONG_STATE;
        }
        int number = bench.state.disputeCount;
        if (number >= MAX_DISPUTES) {
            return TOO_LITTLE;
        }
        history.record(bench.state);
        bench.state.disputeCount++;
        bench.state.disputes[number].start(net, first, last, bitOf(bench.shown[net], first), party, real);
        return number;
    }

    public int judge(int dispute) throws NoSuchElementException {
        Dispute judged = requireDispute(dispute);
        if (judged.stage != OPEN) {
            return WRONG_STATE;
        }
        int verdict = bench.cheapVerdict(judged.net, judged.times(), judged.level);
        int loser = judged.loserBy(verdict);
        int fee = bench.circuit.fee;
        if (bench.state.purses[loser] < fee) {
            return TOO_LITTLE;
        }
        history.record(bench.state);
        bench.state.payCourt(loser, fee);
        judged.verdict = verdict;
        judged.stage = JUDGED;
        return verdict;
    }

    public int appeal(int dispute) throws NoSuchElementException {
        Dispute appealed = requireDispute(dispute);
        if (appealed.stage != JUDGED) {
            return WRONG_STATE;
        }
        int stake = bench.price(appealed.net, appealed.first, appealed.last);
        if (bench.state.purses[appealed.loserBy(appealed.verdict)] < stake) {
            return TOO_LITTLE;
        }
        history.record(bench.state);
        appealed.verdict = bench.dearVerdict(appealed);
        appealed.stage = APPEALED;
        // Whoever has lost now pays; only a party that has not appealed itself can have less than the stake.
        int payer = appealed.loserBy(appealed.verdict);
        bench.state.payCourt(payer, Math.min(stake, bench.state.purses[payer]));
        bench.settle(appealed.net, appealed.first, appealed.last);
        return appealed.verdict;
    }

    public int accept(int dispute) throws NoSuchElementException {
        Dispute accepted = requireDispute(dispute);
        if (accepted.stage != JUDGED) {
            return WRONG_STATE;
        }
        history.record(bench.state);
        accepted.stage = ACCEPTED;
        return bench.rule(accepted);
    }

    public int replay(int net, int from, int to) throws NoSuchElementException, IllegalArgumentException {
        requireGate(net);
        requireTimes(from, to);
        int price = bench.price(net, from, to);
        if (bench.state.purses[COURT] < price) {
            return TOO_LITTLE;
        }
        history.record(bench.state);
        bench.state.purses[COURT] -= price;
        return bench.settle(net, from, to);
    }

    public int setDelay(int net, int which, int delay) throws NoSuchElementException, IllegalArgumentException {
        requireGate(net);
        if (which < 0 || which >= DELAYS || delay < 1 || delay > MAX_DELAY) {
            throw new IllegalArgumentException("delay");
        }
        history.record(bench.state);
        int before = bench.state.delays[which][net];
        if (before != delay) {
            bench.state.delays[which][net] = delay;
            bench.unsettle(net);
        }
        return before;
    }

    public int toggle(int input, int time) throws NoSuchElementException, IllegalArgumentException {
        if (input < 0 || input >= bench.circuit.inputs) {
            throw new NoSuchElementException("input");
        }
        if (!bench.circuit.hasTime(time)) {
            throw new IllegalArgumentException("time");
        }
        history.record(bench.state);
        bench.state.inputWaves[input] ^= window(time, bench.circuit.horizon);
        return bench.unsettle(input);
    }

    public int deposit(int purse, int amount) throws IllegalArgumentException {
        if (purse < 0 || purse >= PURSES || amount < 0 || amount > MAX_AMOUNT) {
            throw new IllegalArgumentException("deposit");
        }
        int sum = bench.state.purses[purse] + amount;
        if (sum > MAX_PURSE) {
            return TOO_LITTLE;
        }
        history.record(bench.state);
        bench.state.purses[purse] = sum;
        return sum;
    }

    public int setLimit(int limit) throws IllegalArgumentException {
        if (limit < 1 || limit > MAX_LIMIT) {
            throw new IllegalArgumentException("limit");
        }
        history.record(bench.state);
        int before = bench.state.limit;
        bench.state.limit = limit;
        return before;
    }

    // Text of waves

    public int format(int net, int kind) throws NoSuchElementException {
        long bits = requireWave(net, kind);
        formattedLength = bench.circuit.horizon + 1;
        for (int time = 0; time < formattedLength && time < formatted.length; time++) {
            int mark = kind == SHOWN ? bench.state.timeState(net, time) : 0;
            formatted[time] = (byte) letter(mark, bitOf(bits, time));
        }
        return formattedLength;
    }

    private static char letter(int mark, int bit) {
        switch (mark) {
            case 2: return bit == 0 ? 'L' : 'H';
            case 1: return bit == 0 ? 'l' : 'h';
            default: return bit == 0 ? '0' : '1';
        }
    }

    public int formattedByte(int index) {
        if (index < 0 || index >= formattedLength || index >= formatted.length) {
            return NONE;
        }
        return formatted[index];
    }

    // Undoing and the snapshot

    public int undoCount() {
        return history.count;
    }

    public int undo() {
        if (history.count == 0) {
            return NONE;
        }
        history.takeBack(bench.state);
        bench.refresh();
        return history.count;
    }

    public void saveSnapshot() {
        history.keep(bench.state);
    }

    public boolean restoreSnapshot() {
        if (!history.kept) {
            return false;
        }
        history.bringBack(bench.state);
        bench.refresh();
        return true;
    }

    // Queries

    public int query(int length) throws IllegalArgumentException {
        if (length < 0 || length > MAX_QUERY || length > buffered) {
            throw new IllegalArgumentException("length");
        }
        tokens.begin(buffer, length);
        boolean many = tokens.isWord("many");
        if (many || tokens.isWord("first")) {
            tokens.advance();
        } else {
            tokens.fail(NOT_ALLOWED);
        }
        int found = queryText.netsOf(tokens, bench);
        buffered = 0;
        errorAt = tokens.errorAt;
        if (tokens.failed()) {
            return HIDDEN - tokens.errorCode;
        }
        if (many) {
            return Integer.bitCount(found);
        }
        return found == 0 ? NONE : Integer.numberOfTrailingZeros(found);
    }

    // Bits

    private static int bitOf(long bits, int time) {
        return (int) (bits >>> time & 1L);
    }

    /** The times from first to last, as a set; both are times of a bench and last is not less than first. */
    private static long window(int first, int last) {
        return (2L << last) - (1L << first);
    }

    private static int changesOf(long bits, int horizon) {
        return Long.bitCount((bits ^ bits >>> 1) & window(0, horizon - 1));
    }

    private static String kindWord(int kind) {
        switch (kind) {
            case 0: return "and";
            case 1: return "or";
            case 2: return "xor";
            case 3: return "nand";
            case 4: return "nor";
            case 5: return "not";
            default: return "same";
        }
    }

    private static String propertyWord(int property) {
        switch (property) {
            case 0: return "net";
            case 1: return "kind";
            case 2: return "cone";
            case 3: return "changes";
            case 4: return "wrong";
            case 5: return "settled";
            case 6: return "ruled";
            case 7: return "pulses";
            default: return "last";
        }
    }

    /** What a text lays down for good: no operation changes it. */
    private static final class Circuit {
        final int[] kinds = new int[MAX_NETS];
        final int[] firstNets = new int[MAX_NETS];
        final int[] secondNets = new int[MAX_NETS];
        /** Of each gate the gates on which it depends, as a set; empty for an input. */
        final int[] cones = new int[MAX_NETS];
        int inputs = 1;
        int gates = 0;
        int horizon = MIN_HORIZON;
        int rate = 1;
        int fee = 1;

        int nets() {
            return inputs + gates;
        }

        boolean hasNet(int net) {
            return net >= 0 && net < nets();
        }

        boolean hasGate(int net) {
            return net >= inputs && net < nets();
        }

        boolean hasTime(int time) {
            return time >= 0 && time <= horizon;
        }

        int cone(int net) {
            return Integer.bitCount(cones[net]);
        }

        /** The rows are used again: an input can stand where a gate of a former text has left its cone. */
        void clear() {
            inputs = 0;
            gates = 0;
            Arrays.fill(cones, 0);
        }

        void addGate(int kind, int firstNet, int secondNet) {
            int net = nets();
            kinds[net] = kind;
            firstNets[net] = firstNet;
            secondNets[net] = secondNet;
            cones[net] = 1 << net | cones[firstNet] | (secondNet == NONE ? 0 : cones[secondNet]);
            gates++;
        }

        /** The gates whose waves a change of a net touches, as a set. */
        int touchedBy(int net) {
            int roots = hasGate(net) ? 1 << net : readersOf(net);
            int touched = 0;
            for (int each = inputs; each < nets(); each++) {
                if ((cones[each] & roots) != 0) {
                    touched |= 1 << each;
                }
            }
            return touched;
        }

        private int readersOf(int net) {
            int readers = 0;
            for (int each = inputs; each < nets(); each++) {
                if (firstNets[each] == net || secondNets[each] == net) {
                    readers |= 1 << each;
                }
            }
            return readers;
        }

        /** What the kind of a gate makes of the given waves of its nets. */
        long idealOf(int net, long[] waves) {
            long one = waves[firstNets[net]];
            long other = secondNets[net] == NONE ? one : waves[secondNets[net]];
            long all = window(0, horizon);
            switch (kinds[net]) {
                case 0: return one & other;
                case 1: return one | other;
                case 2: return one ^ other;
                case 3: return all & ~(one & other);
                case 4: return all & ~(one | other);
                case 5: return all & ~one;
                default: return one;
            }
        }
    }

    /** A dispute: its pulse as it was when it was opened, the claim, and how far it has come. */
    private static final class Dispute {
        int net;
        int first;
        int last;
        int level;
        int party;
        boolean claimsReal;
        int stage;
        int verdict = NONE;

        void start(int ofNet, int from, int to, int ofLevel, int ofParty, boolean real) {
            net = ofNet;
            first = from;
            last = to;
            level = ofLevel;
            party = ofParty;
            claimsReal = real;
            stage = OPEN;
            verdict = NONE;
        }

        void copyFrom(Dispute other) {
            start(other.net, other.first, other.last, other.level, other.party, other.claimsReal);
            stage = other.stage;
            verdict = other.verdict;
        }

        int times() {
            return last - first + 1;
        }

        boolean isPending() {
            return stage == OPEN || stage == JUDGED;
        }

        int loserBy(int someVerdict) {
            if (someVerdict == NONE) {
                return NONE;
            }
            return (someVerdict == REAL) == claimsReal ? 1 - party : party;
        }
    }

    /** Everything that an operation can change and undoing restores. */
    private static final class State {
        final int[][] delays = new int[DELAYS][MAX_NETS];
        final long[] inputWaves = new long[MAX_INPUTS];
        final long[] settled = new long[MAX_NETS];
        final long[] ruled = new long[MAX_NETS];
        /** The ruled times whose ruled value is 1. */
        final long[] ruledHigh = new long[MAX_NETS];
        final int[] purses = new int[PURSES];
        final Dispute[] disputes = new Dispute[MAX_DISPUTES];
        int disputeCount = 0;
        int limit = 1;

        State() {
            for (int i = 0; i < MAX_DISPUTES; i++) {
                disputes[i] = new Dispute();
            }
        }

        void clear() {
            for (int net = 0; net < MAX_NETS; net++) {
                forget(net);
            }
            Arrays.fill(purses, 0);
            disputeCount = 0;
        }

        void copyFrom(State other) {
            for (int which = 0; which < DELAYS; which++) {
                System.arraycopy(other.delays[which], 0, delays[which], 0, MAX_NETS);
            }
            System.arraycopy(other.inputWaves, 0, inputWaves, 0, MAX_INPUTS);
            System.arraycopy(other.settled, 0, settled, 0, MAX_NETS);
            System.arraycopy(other.ruled, 0, ruled, 0, MAX_NETS);
            System.arraycopy(other.ruledHigh, 0, ruledHigh, 0, MAX_NETS);
            System.arraycopy(other.purses, 0, purses, 0, PURSES);
            disputeCount = other.disputeCount;
            for (int i = 0; i < disputeCount; i++) {
                disputes[i].copyFrom(other.disputes[i]);
            }
            limit = other.limit;
        }

        int settledTimes(int net) {
            return Long.bitCount(settled[net]);
        }

        int ruledTimes(int net) {
            return Long.bitCount(ruled[net] & ~settled[net]);
        }

        /** 2 settled, 1 ruled, 0 neither. */
        int timeState(int net, int time) {
            if (bitOf(settled[net], time) == 1) {
                return 2;
            }
            return bitOf(ruled[net], time);
        }

        boolean hasPending(int net, int first, int last) {
            boolean found = false;
            for (int i = 0; i < disputeCount; i++) {
                Dispute each = disputes[i];
                found |= each.isPending() && each.net == net && each.first <= last && each.last >= first;
            }
            return found;
        }

        void payCourt(int party, int amount) {
            purses[party] -= amount;
            purses[COURT] += amount;
        }

        void forget(int net) {
            settled[net] = 0L;
            ruled[net] = 0L;
            ruledHigh[net] = 0L;
        }

        int dropPending(int net) {
            int count = 0;
            for (int i = 0; i < disputeCount; i++) {
                if (disputes[i].net == net && disputes[i].isPending()) {
                    disputes[i].stage = DROPPED;
                    count++;
                }
            }
            return count;
        }
    }

    /** A circuit and its state, with the waves that follow from both. */
    private static final class Bench {
        final Circuit circuit = new Circuit();
        final State state = new State();
        final long[] shown = new long[MAX_NETS];
        final long[] cheap = new long[MAX_NETS];
        final long[] dear = new long[MAX_NETS];
        final long[] trial = new long[MAX_NETS];
        /** Of each net the greatest sum of delays along nets that lead to it. */
        final int[] paths = new int[MAX_NETS];

        void clear() {
            circuit.clear();
            state.clear();
        }

        /** Makes the waves anew; due whenever the circuit or the state has changed. */
        void refresh() {
            for (int net = 0; net < circuit.inputs; net++) {
                cheap[net] = state.inputWaves[net];
                dear[net] = state.inputWaves[net];
                paths[net] = 0;
            }
            for (int net = circuit.inputs; net < circuit.nets(); net++) {
                cheap[net] = lateWave(net, cheap);
                dear[net] = dearWave(net);
                paths[net] = longestPath(net);
            }
            showInto(shown, NONE, 0L);
        }

        private long lateWave(int net, long[] waves) {
            long ideal = circuit.idealOf(net, waves);
            int late = state.delays[LATE][net];
            long before = bitOf(ideal, 0) == 0 ? 0L : window(0, late - 1);
            return (ideal << late | before) & window(0, circuit.horizon);
        }

        private long dearWave(int net) {
            long ideal = circuit.idealOf(net, dear);
            long wave = ideal & 1L;
            int level = bitOf(ideal, 0);
            int since = 0;
            for (int time = 1; time <= circuit.horizon; time++) {
                int wanted = bitOf(ideal, time);
                if (wanted != bitOf(ideal, time - 1)) {
                    since = time;
                }
                if (time - swing(net, wanted) >= since) {
                    level = wanted;
                }
                wave |= (long) level << time;
            }
            return wave;
        }

        private int longestPath(int net) {
            int second = circuit.secondNets[net];
            int before = Math.max(paths[circuit.firstNets[net]], second == NONE ? 0 : paths[second]);
            return before + Math.max(swing(net, 0), swing(net, 1));
        }

        /** The delay of a gate for a change to the given value. */
        private int swing(int net, int level) {
            return state.delays[level == 1 ? RISE : FALL][net];
        }

        /** Makes the shown waves as they are, or would be if some more times of a gate were settled. */
        private void showInto(long[] target, int moreNet, long moreTimes) {
            for (int net = 0; net < circuit.inputs; net++) {
                target[net] = state.inputWaves[net];
            }
            for (int net = circuit.inputs; net < circuit.nets(); net++) {
                long ruled = state.ruled[net];
                long settled = net == moreNet ? state.settled[net] | moreTimes : state.settled[net];
                long wave = lateWave(net, target) & ~ruled | state.ruledHigh[net];
                target[net] = wave & ~settled | dear[net] & settled;
            }
        }

        long wrongTimes(int net) {
            return shown[net] ^ dear[net];
        }

        int wrongSum(long[] waves) {
            int sum = 0;
            for (int net = 0; net < circuit.nets(); net++) {
                sum += Long.bitCount(waves[net] ^ dear[net]);
            }
            return sum;
        }

        int gateChanges(long[] waves) {
            int sum = 0;
            for (int net = circuit.inputs; net < circuit.nets(); net++) {
                sum += changesOf(waves[net], circuit.horizon);
            }
            return sum;
        }

        /** What it costs to have times of a gate replayed. */
        int price(int net, int from, int to) {
            return circuit.rate * (to - from + 1) * circuit.cone(net);
        }

        int gainOf(int net, int from, int to) {
            showInto(trial, net, window(from, to));
            return wrongSum(shown) - wrongSum(trial);
        }

        /** The first times of the pulses of a gate, as a set. */
        private long pulseStarts(int net) {
            long wave = shown[net];
            long free = ~(state.ruled[net] | state.settled[net]);
            long starts = 0L;
            int start = 0;
            for (int time = 1; time <= circuit.horizon; time++) {
                if (bitOf(wave, time) != bitOf(wave, time - 1)) {
                    boolean isShort = start > 0 && time - start <= state.limit;
                    if (isShort && (window(start, time - 1) & free) != 0L) {
                        starts |= 1L << start;
                    }
                    start = time;
                }
            }
            return starts;
        }

        int pulses(int net) {
            return Long.bitCount(pulseStarts(net));
        }

        /** The first time of the pulse with a number; NONE without one. */
        int pulseStart(int net, int index) {
            long starts = pulseStarts(net);
            int number = 0;
            for (int time = 1; time < circuit.horizon; time++) {
                if (bitOf(starts, time) == 1) {
                    if (number == index) {
                        return time;
                    }
                    number++;
                }
            }
            return NONE;
        }

        int runEnd(int net, int first) {
            int last = first;
            while (last < circuit.horizon && bitOf(shown[net], last + 1) == bitOf(shown[net], first)) {
                last++;
            }
            return last;
        }

        int cheapVerdict(int net, int times, int level) {
            return times > swing(net, level) ? REAL : SWALLOWED;
        }

        int dearVerdict(Dispute dispute) {
            long same = dispute.level == 1 ? dear[dispute.net] : ~dear[dispute.net];
            return (same & window(dispute.first, dispute.last)) != 0L ? REAL : SWALLOWED;
        }

        /** Settles times of a gate; answers how many of them were not settled. */
        int settle(int net, int from, int to) {
            long fresh = window(from, to) & ~state.settled[net];
            state.settled[net] |= fresh;
            refresh();
            return Long.bitCount(fresh);
        }

        /** Rules the window of a dispute by its verdict; answers how many times were neither ruled nor settled. */
        int rule(Dispute dispute) {
            int net = dispute.net;
            long times = window(dispute.first, dispute.last);
            long fresh = times & ~state.ruled[net] & ~state.settled[net];
            boolean high = (dispute.verdict == REAL) == (dispute.level == 1);
            state.ruled[net] |= times;
            state.ruledHigh[net] = high ? state.ruledHigh[net] | times : state.ruledHigh[net] & ~times;
            refresh();
            return Long.bitCount(fresh);
        }

        /** What follows from another delay or wave of a net; answers how many disputes are dropped. */
        int unsettle(int net) {
            int touched = circuit.touchedBy(net);
            int dropped = 0;
            for (int each = circuit.inputs; each < circuit.nets(); each++) {
                if ((touched >>> each & 1) == 1) {
                    state.forget(each);
                    dropped += state.dropPending(each);
                }
            }
            refresh();
            return dropped;
        }

        /** A property of a net that a query can name. */
        int propertyOf(int net, int property) {
            boolean isGate = circuit.hasGate(net);
            switch (property) {
                case 0: return net;
                case 1: return isGate ? 1 + circuit.kinds[net] : 0;
                case 2: return isGate ? circuit.cone(net) : 0;
                case 3: return changesOf(shown[net], circuit.horizon);
                case 4: return Long.bitCount(wrongTimes(net));
                case 5: return state.settledTimes(net);
                case 6: return state.ruledTimes(net);
                case 7: return isGate ? pulses(net) : 0;
                default: return bitOf(shown[net], circuit.horizon);
            }
        }
    }

    /** The states before the most recent operations, in a ring of rows that are used again, and the snapshot. */
    private static final class History {
        final State[] rows = new State[MAX_UNDO];
        final State snapshot = new State();
        boolean kept = false;
        int count = 0;
        int next = 0;

        History() {
            for (int i = 0; i < MAX_UNDO; i++) {
                rows[i] = new State();
            }
        }

        void record(State state) {
            rows[next].copyFrom(state);
            next = next == MAX_UNDO - 1 ? 0 : next + 1;
            count = Math.min(count + 1, MAX_UNDO);
        }

        void takeBack(State state) {
            next = next == 0 ? MAX_UNDO - 1 : next - 1;
            count--;
            state.copyFrom(rows[next]);
        }

        void keep(State state) {
            snapshot.copyFrom(state);
            kept = true;
        }

        void bringBack(State state) {
            state.copyFrom(snapshot);
            count = 0;
        }

        void discardAll() {
            count = 0;
            kept = false;
        }
    }

    /**
     * The tokens of a text, one at a time, and its first error. Behind an error every question about the
     * token is answered with no, so that a reader runs out without asking for the error everywhere.
     */
    private static final class Tokens {
        private static final int END = 0;
        private static final int WORD = 1;
        private static final int NUMBER = 2;
        private static final int SIGN = 3;
        /** Greater than every number that is allowed anywhere: longer numbers stop there. */
        private static final int GREAT = 1000000;

        private byte[] text = new byte[0];
        private int length = 0;
        private int start = 0;
        private int end = 0;
        private int type = END;
        private int number = 0;
        int errorCode = 0;
        int errorAt = NONE;

        void begin(byte[] bytes, int count) {
            text = bytes;
            length = Math.min(count, bytes.length);
            end = 0;
            errorCode = 0;
            errorAt = NONE;
            advance();
        }

        /** Goes on to the next token, but stays at an error. */
        void advance() {
            if (failed()) {
                return;
            }
            while (end < length && (text[end] == ' ' || text[end] == '\n')) {
                end++;
            }
            start = end;
            if (start >= length) {
                type = END;
            } else if (text[start] >= 'a' && text[start] <= 'z') {
                scanWord();
            } else if (text[start] >= '0' && text[start] <= '9') {
                scanNumber();
            } else {
                type = SIGN;
                end++;
            }
        }

        private void scanWord() {
            type = WORD;
            while (end < length && text[end] >= 'a' && text[end] <= 'z') {
                end++;
            }
        }

        private void scanNumber() {
            type = NUMBER;
            number = 0;
            while (end < length && text[end] >= '0' && text[end] <= '9') {
                number = Math.min(10 * number + text[end] - '0', GREAT);
                end++;
            }
        }

        boolean failed() {
            return errorCode != 0;
        }

        void fail(int code) {
            if (!failed()) {
                errorCode = code;
                errorAt = start;
            }
        }

        boolean isEnd() {
            return !failed() && type == END;
        }

        boolean isNumber() {
            return !failed() && type == NUMBER;
        }

        boolean isSign(char sign) {
            return !failed() && type == SIGN && start < length && text[start] == sign;
        }

        boolean isWord(String word) {
            if (failed() || type != WORD || end > length || end - start != word.length()) {
                return false;
            }
            boolean same = true;
            for (int i = 0; i < word.length(); i++) {
                same &= text[start + i] == word.charAt(i);
            }
            return same;
        }

        /** The number that is due here, still to be passed; the least one behind an error. */
        int peekNumber(int least, int most) {
            if (!isNumber()) {
                fail(NOT_ALLOWED);
            } else if (number < least || number > most) {
                fail(OUT_OF_RANGE);
            }
            return failed() ? least : number;
        }

        int takeNumber(int least, int most) {
            int taken = peekNumber(least, most);
            advance();
            return taken;
        }

        void takeWord(String word) {
            if (!isWord(word)) {
                fail(NOT_ALLOWED);
            }
            advance();
        }

        void takeSign(char sign) {
            if (!isSign(sign)) {
                fail(NOT_ALLOWED);
            }
            advance();
        }
    }

    /** Reads the text of a bench into a cleared bench. */
    private static final class BenchText {
        static void read(Tokens tokens, Bench bench) {
            readHead(tokens, bench);
            readInputs(tokens, bench);
            readGates(tokens, bench);
            readPurses(tokens, bench);
            if (!tokens.isEnd()) {
                tokens.fail(NOT_ALLOWED);
            }
        }

        private static void readHead(Tokens tokens, Bench bench) {
            tokens.takeWord("bench");
            bench.circuit.horizon = tokens.takeNumber(MIN_HORIZON, MAX_HORIZON);
            bench.state.limit = tokens.takeNumber(1, MAX_LIMIT);
            bench.circuit.rate = tokens.takeNumber(0, MAX_RATE);
            bench.circuit.fee = tokens.takeNumber(0, MAX_FEE);
            tokens.takeSign(';');
        }

        private static void readInputs(Tokens tokens, Bench bench) {
            if (!tokens.isWord("input")) {
                tokens.fail(NOT_ALLOWED);
            }
            for (int count = 0; count <= MAX_INPUTS && tokens.isWord("input"); count++) {
                if (count == MAX_INPUTS) {
                    tokens.fail(TOO_MANY);
                } else {
                    tokens.advance();
                    bench.state.inputWaves[count] = readWave(tokens, bench.circuit.horizon);
                    bench.circuit.inputs++;
                }
            }
        }

        private static long readWave(Tokens tokens, int horizon) {
            long wave = tokens.takeNumber(0, 1) == 1 ? window(0, horizon) : 0L;
            int before = 0;
            for (int count = 0; count <= MAX_HORIZON && tokens.isNumber(); count++) {
                int time = tokens.peekNumber(1, horizon);
                if (time <= before) {
                    tokens.fail(NOT_ASCENDING);
                }
                tokens.advance();
                wave ^= window(time, horizon);
                before = time;
            }
            tokens.takeSign(';');
            return wave;
        }

        private static void readGates(Tokens tokens, Bench bench) {
            for (int count = 0; count <= MAX_GATES && tokens.isWord("gate"); count++) {
                if (count == MAX_GATES) {
                    tokens.fail(TOO_MANY);
                } else {
                    tokens.advance();
                    readGate(tokens, bench);
                }
            }
        }

        private static void readGate(Tokens tokens, Bench bench) {
            int net = bench.circuit.nets();
            int kind = readKind(tokens);
            int first = tokens.takeNumber(0, net - 1);
            int second = kind < FIRST_UNARY_KIND ? tokens.takeNumber(0, net - 1) : NONE;
            for (int which = 0; which < DELAYS; which++) {
                int delay = tokens.takeNumber(1, MAX_DELAY);
                if (!tokens.failed()) {
                    bench.state.delays[which][net] = delay;
                }
            }
            tokens.takeSign(';');
            if (!tokens.failed()) {
                bench.circuit.addGate(kind, first, second);
            }
        }

        private static int readKind(Tokens tokens) {
            for (int kind = 0; kind < KINDS; kind++) {
                if (tokens.isWord(kindWord(kind))) {
                    tokens.advance();
                    return kind;
                }
            }
            tokens.fail(NOT_ALLOWED);
            return 0;
        }

        private static void readPurses(Tokens tokens, Bench bench) {
            if (tokens.isWord("purses")) {
                tokens.advance();
                for (int purse = 0; purse < PURSES; purse++) {
                    bench.state.purses[purse] = tokens.takeNumber(0, MAX_AMOUNT);
                }
                tokens.takeSign(';');
            }
        }
    }

    /**
     * Reads the test of a query and finds the nets for which it holds, all nets at once. What is open ('not'
     * and '(') stands on a stack; a '(' keeps there what was found of the test around it.
     */
    private static final class QueryText {
        private final boolean[] negates = new boolean[MAX_OPEN];
        private final int[] keptEarlier = new int[MAX_OPEN];
        private final int[] keptFactors = new int[MAX_OPEN];
        private int opened = 0;
        private int everyNet = 0;
        /** The nets for which an earlier conjunction of the test holds. */
        private int earlier = 0;
        /** The nets for which all factors of the conjunction hold so far. */
        private int factors = 0;

        int netsOf(Tokens tokens, Bench bench) {
            everyNet = (1 << bench.circuit.nets()) - 1;
            opened = 0;
            beginTest();
            boolean more = true;
            for (int count = 0; more && count <= MAX_QUERY; count++) {
                openFactors(tokens);
                endFactor(comparison(tokens, bench));
                closeParentheses(tokens);
                more = goesOn(tokens);
            }
            return earlier | factors;
        }

        private void beginTest() {
            earlier = 0;
            factors = everyNet;
        }

        private void openFactors(Tokens tokens) {
            boolean negated = tokens.isWord("not");
            for (int count = 0; count <= MAX_OPEN && (negated || tokens.isSign('(')); count++) {
                if (opened >= MAX_OPEN) {
                    tokens.fail(TOO_MANY);
                } else {
                    negates[opened] = negated;
                    keptEarlier[opened] = earlier;
                    keptFactors[opened] = factors;
                    opened++;
                    if (!negated) {
                        beginTest();
                    }
                    tokens.advance();
                }
                negated = tokens.isWord("not");
            }
        }

        private void endFactor(int holds) {
            int nets = holds;
            while (opened > 0 && negates[opened - 1]) {
                nets = everyNet & ~nets;
                opened--;
            }
            factors &= nets;
        }

        private void closeParentheses(Tokens tokens) {
            // What is open behind a factor are parentheses (and what is open around them): its own 'not's have ended.
            while (opened > 0 && tokens.isSign(')')) {
                int nets = earlier | factors;
                opened--;
                earlier = keptEarlier[opened];
                factors = keptFactors[opened];
                endFactor(nets);
                tokens.advance();
            }
        }

        /** Whether another factor is due. */
        private boolean goesOn(Tokens tokens) {
            boolean and = tokens.isWord("and");
            if (and || tokens.isWord("or")) {
                if (!and) {
                    earlier |= factors;
                    factors = everyNet;
                }
                tokens.advance();
                return true;
            }
            if (opened > 0 || !tokens.isEnd()) {
                tokens.fail(NOT_ALLOWED);
            }
            return false;
        }

        private int comparison(Tokens tokens, Bench bench) {
            int left = readOperand(tokens);
            boolean less = tokens.isSign('<');
            boolean greater = tokens.isSign('>');
            if (!less && !greater && !tokens.isSign('=')) {
                tokens.fail(NOT_ALLOWED);
            }
            tokens.advance();
            int right = readOperand(tokens);
            int nets = 0;
            for (int net = 0; net < bench.circuit.nets(); net++) {
                int one = left < NUMBERS ? left : bench.propertyOf(net, left - NUMBERS);
                int other = right < NUMBERS ? right : bench.propertyOf(net, right - NUMBERS);
                if (less && one < other || greater && one > other || !less && !greater && one == other) {
                    nets |= 1 << net;
                }
            }
            return nets;
        }

        /** A number as it is, a property as NUMBERS plus its place in the list of properties. */
        private static int readOperand(Tokens tokens) {
            for (int property = 0; property < PROPERTIES; property++) {
                if (tokens.isWord(propertyWord(property))) {
                    tokens.advance();
                    return NUMBERS + property;
                }
            }
            return tokens.takeNumber(0, NUMBERS - 1);
        }
    }
}
