import java.util.concurrent.Callable;

/** The edges of the promises 5 to 19, 27, 28, 38 and 39, and of the section 1 of the Description. */
public final class WaveEdgeTest {
    private static final int NONE = -1;
    /** Of the 16 nets only net 15 is shown otherwise than dear: 1 at 3 and 4. */
    private static final String FULL = "bench 20 1 1 1;input 0 2 4;" + "input 0;".repeat(3)
            + "gate same 0 1 1 1;".repeat(11) + "gate same 0 9 9 1;purses 0 0 99999;";
    /** Each gate is the same as the one before. */
    private static final String CHAIN = chain();
    /** Net 1 is shown 1 at 3, 4, 7, 8 and from 11 on, and dear 1 from 13 on. */
    private static final String MARKS = "bench 20 5 0 0;input 0 2 4 6 8 10;gate same 0 3 9 1;";

    /** A question about a net, a time or what else has a range. */
    private interface Question {
        Object of(int number);
    }

    public static void main(String[] args) {
        netRanges();
        gateRanges();
        kindRanges();
        timeRanges();
        whatRanges();
        firstAndLastNets();
        truth();
        truthAtZero();
        dearPulses();
        dearGaps();
        dearEnds();
        dearByDear();
        cheapDelays();
        shownByShown();
        twoNetsOfEachClass();
        settledAndRuled();
        bitsOfWaves();
        changes();
        quietFrom();
        shortest();
        wrong();
        worst();
        shape();
        shares();
        formatLetters();
        formatLengths();
        formatStays();
        Due.close("WaveEdgeTest");
    }

    private static String chain() {
        StringBuilder text = new StringBuilder("bench 60 1 9 1;input 0 2;");
        for (int net = 0; net < 12; net++) {
            text.append("gate same ").append(net).append(" 9 8 1;");
        }
        return text.toString();
    }

    private static GlitchCourt court(String text) {
        return Due.court(text);
    }

    private static long wave(String text, int net, int kind) {
        return Due.court(text).wave(net, kind);
    }

    // What there is not

    private static void taken(String what, Callable<?> call) {
        Object answer = Due.answer(call);
        Due.equal(what + " answers", answer.toString().startsWith("throws"), false);
    }

    private static void range(String what, int least, int most, Question question) {
        for (int number : Due.outside(least, most)) {
            Due.noSuch(what + " " + number, () -> question.of(number));
        }
        if (most >= least) {
            taken(what + " " + least, () -> question.of(least));
            taken(what + " " + most, () -> question.of(most));
        }
    }

    private static void netRanges() {
        netRanges(new GlitchCourt(), 0);
        netRanges(court("bench 60 1 1 1;input 0;gate not 0 1 1 1;"), 1);
        netRanges(court(FULL), 15);
    }

    private static void netRanges(GlitchCourt x, int last) {
        range("7 value of net", 0, last, n -> x.value(n, 0, 0));
        range("8 stateAt of net", 0, last, n -> x.stateAt(n, 0));
        range("9 wave of net", 0, last, n -> x.wave(n, 0));
        range("10 changes of net", 0, last, n -> x.changes(n, 0));
        range("11 quietFrom of net", 0, last, n -> x.quietFrom(n, 0));
        range("12 shortest of net", 0, last, n -> x.shortest(n, 0));
        range("13 wrong of net", 0, last, n -> x.wrong(n));
        range("14 firstWrong of net", 0, last, n -> x.firstWrong(n));
        range("18 touches of net", 0, last, n -> x.touches(n));
        range("19 longest of net", 0, last, n -> x.longest(n));
        range("38 format of net", 0, last, n -> x.format(n, 0));
    }

    private static void gateRanges() {
        gateRanges(new GlitchCourt(), 1, 0);
        gateRanges(court("bench 60 1 1 1;input 0;gate not 0 1 1 1;purses 0 0 9;"), 1, 1);
        gateRanges(court(FULL), 4, 15);
    }

    private static void gateRanges(GlitchCourt x, int first, int last) {
        range("6 gate", first, last, n -> x.gate(n, 0));
        range("17 dependsOn of gate", first, last, n -> x.dependsOn(n));
        range("23 cost of gate", first, last, n -> x.cost(n, 0, 0));
        range("24 gain of gate", first, last, n -> x.gain(n, 0, 0));
        range("33 replay of gate", first, last, n -> x.replay(n, 0, 0));
        range("34 setDelay of gate", first, last, n -> x.setDelay(n, 0, 1));
    }

    private static void kindRanges() {
        GlitchCourt x = court(FULL);
        for (int net : new int[] {0, 3, 4, 15}) {
            range("7 value of kind", 0, 2, k -> x.value(net, 0, k));
            range("9 wave of kind", 0, 2, k -> x.wave(net, k));
            range("10 changes of kind", 0, 2, k -> x.changes(net, k));
            range("11 quietFrom of kind", 0, 2, k -> x.quietFrom(net, k));
            range("12 shortest of kind", 0, 2, k -> x.shortest(net, k));
            range("38 format of kind", 0, 2, k -> x.format(net, k));
        }
    }

    private static void timeRanges() {
        for (int horizon : new int[] {4, 5, 59, 60}) {
            GlitchCourt x = court("bench " + horizon + " 1 1 1;input 0;gate not 0 1 1 1;");
            for (int kind = 0; kind < 3; kind++) {
                int k = kind;
                range("7 value at time", 0, horizon, t -> x.value(0, t, k));
                range("7 value of a gate at time", 0, horizon, t -> x.value(1, t, k));
            }
            range("8 stateAt time", 0, horizon, t -> x.stateAt(0, t));
            range("8 stateAt of a gate at time", 0, horizon, t -> x.stateAt(1, t));
        }
    }

    private static void whatRanges() {
        range("5 size", 0, 9, w -> new GlitchCourt().size(w));
        GlitchCourt x = court(FULL);
        range("6 what", 0, 9, w -> x.gate(4, w));
        range("6 what of the last gate", 0, 9, w -> x.gate(15, w));
        range("6 what of an input", 1, 0, w -> x.gate(3, w));
    }

    /** First the inputs, then the gates, each in the order of the text. */
    private static void firstAndLastNets() {
        GlitchCourt x = court("bench 9 1 1 1;input 0 5;input 1 6;gate nor 0 1 1 2 3;gate same 2 4 5 6;");
        Due.equal("9 net 0", x.wave(0, 0), Due.bits(5, 9));
        Due.equal("9 net 1", x.wave(1, 0), Due.bits(0, 5));
        int[] first = {4, 0, 1, 1, 2, 3, 1, 0, 0, 0};
        int[] second = {6, 2, NONE, 4, 5, 6, 2, 0, 0, 0};
        for (int what = 0; what < 10; what++) {
            Due.equal("6 net 2 " + what, x.gate(2, what), first[what]);
            Due.equal("6 net 3 " + what, x.gate(3, what), second[what]);
        }
        // The greatest lower number, and the same net twice.
        GlitchCourt y = court(FULL.replace("gate same 0 9 9 1", "gate xor 14 14 9 9 1"));
        Due.equal("6 net 14", y.gate(15, 1), 14);
        Due.equal("6 net 14 again", y.gate(15, 2), 14);
    }

    // Section 1: waves

    /** Net 0 is 0 0 1 1 and net 1 is 0 1 0 1, ten times each. */
    private static void truth() {
        String[] gates = {"and 0 1", "or 0 1", "xor 0 1", "nand 0 1", "nor 0 1", "not 0", "same 0"};
        String[] due = {"0001", "0111", "0110", "1110", "1000", "1100", "0011"};
        for (int i = 0; i < gates.length; i++) {
            GlitchCourt x = court("bench 40 1 1 1;input 0 20;input 0 10 20 30;gate " + gates[i] + " 1 1 1;");
            for (int kind = 0; kind < 3; kind++) {
                StringBuilder seen = new StringBuilder();
                for (int time = 5; time < 40; time += 10) {
                    seen.append(x.value(2, time, kind));
                }
                Due.equal("7 " + gates[i] + " of kind " + kind, seen.toString(), due[i]);
            }
        }
    }

    /** All waves have the value of the ideal at time 0, however great the delays are. */
    private static void truthAtZero() {
        String[] gates = {"and 0 1", "or 0 1", "xor 0 1", "nand 0 1", "nor 0 1", "not 0", "same 0"};
        String[] due = {"0001", "0111", "0110", "1110", "1000", "1100", "0011"};
        for (int i = 0; i < gates.length * 4; i++) {
            String inputs = "input " + i % 4 / 2 + ";input " + i % 2 + ";";
            GlitchCourt x = court("bench 4 1 1 1;" + inputs + "gate " + gates[i / 4] + " 9 9 9;");
            for (int kind = 0; kind < 3; kind++) {
                long all = due[i / 4].charAt(i % 4) == '1' ? 31L : 0L;
                Due.equal("9 " + inputs + gates[i / 4] + " of kind " + kind, x.wave(2, kind), all);
            }
        }
    }

    /** A pulse of as many times as the delay is swallowed, one of one more passes; for each delay, both values. */
    private static void dearPulses() {
        for (int own = 1; own <= 9; own++) {
            for (int other = 1; other <= 9; other += 4) {
                String text = "bench 60 1 1 1;input 0 2 " + (2 + own) + ";gate same 0 " + own + " " + other + " 1;";
                Due.equal("9 swallowed 1 in " + text, wave(text, 1, 2), 0L);
                String fallen = "bench 60 1 1 1;input 1 2 " + (2 + own) + ";gate same 0 " + other + " " + own + " 1;";
                Due.equal("9 swallowed 0 in " + fallen, wave(fallen, 1, 2), Due.bits(0, 60));
                int end = 2 + own + other;
                text = text.replace(" " + (2 + own) + ";", " " + (3 + own) + ";");
                Due.equal("9 passing 1 in " + text, wave(text, 1, 2), Due.bits(2 + own, end));
                fallen = fallen.replace(" " + (2 + own) + ";", " " + (3 + own) + ";");
                Due.equal("9 passing 0 in " + fallen, wave(fallen, 1, 2), Due.bits(0, 1 + own, end + 1, 60));
            }
        }
    }

    /** A gap of as many times as the delay is swallowed, too. */
    private static void dearGaps() {
        for (int fall = 1; fall <= 9; fall++) {
            String gate = ";gate same 0 1 " + fall + " 1;";
            String gap = "bench 40 1 1 1;input 0 2 20 ";
            Due.equal("9 gap of " + fall, wave(gap + (20 + fall) + gate, 1, 2), Due.bits(3, 40));
            Due.equal("9 gap of one more", wave(gap + (21 + fall) + gate, 1, 2),
                    Due.bits(3, 19 + fall, 22 + fall, 40));
        }
    }

    private static void dearEnds() {
        String gate = ";gate same 0 9 9 1;";
        Due.equal("9 it changes at the horizon", wave("bench 20 1 1 1;input 0 11" + gate, 1, 2), Due.bits(20, 20));
        Due.equal("9 it would change behind it", wave("bench 20 1 1 1;input 0 12" + gate, 1, 2), 0L);
        Due.equal("9 0 at the horizon", wave("bench 20 1 1 1;input 1 11" + gate, 1, 2), Due.bits(0, 19));
        Due.equal("9 0 behind it", wave("bench 20 1 1 1;input 1 12" + gate, 1, 2), Due.bits(0, 20));
        Due.equal("9 from time 1", wave("bench 20 1 1 1;input 0 1" + gate, 1, 2), Due.bits(10, 20));
        Due.equal("9 time 0 alone", wave("bench 20 1 1 1;input 1 1" + gate, 1, 2), Due.bits(0, 9));
        Due.equal("9 the least horizon", wave("bench 4 1 1 1;input 0 1;gate same 0 3 1 1;", 1, 2), Due.bits(4, 4));
        Due.equal("9 one too short", wave("bench 4 1 1 1;input 0 1;gate same 0 4 1 1;", 1, 2), 0L);
        Due.equal("9 the greatest horizon", wave("bench 60 1 1 1;input 0 59;gate same 0 1 1 1;", 1, 2),
                Due.bits(60, 60));
        Due.equal("9 rise and fall differ", wave("bench 20 1 1 1;input 0 2 8;gate same 0 5 2 1;", 1, 2),
                Due.bits(7, 9));
        Due.equal("9 of a not", wave("bench 20 1 1 1;input 0 2 8;gate not 0 2 5 1;", 1, 2), Due.bits(0, 6, 10, 20));
    }

    private static void dearByDear() {
        // Net 1 lets the pulse of 3 times pass and makes one of 6 of it: 4 to 9. Net 2 takes that.
        String text = "bench 30 1 1 1;input 0 2 5;gate same 0 2 5 1;gate same 1 5 1 1;";
        Due.equal("9 net 1", wave(text, 1, 2), Due.bits(4, 9));
        Due.equal("9 net 2", wave(text, 2, 2), Due.bits(9, 10));
        Due.equal("9 net 2 with one more", wave(text.replace("same 1 5", "same 1 6"), 2, 2), 0L);
        Due.equal("9 its cheap wave", wave(text, 2, 1), Due.bits(4, 6));
    }

    /** Up to the cheap delay it has the value of the ideal at time 0, from then on the one of as long before. */
    private static void cheapDelays() {
        for (int late = 1; late <= 9; late++) {
            String gate = ";gate same 0 9 9 " + late + ";";
            for (int kind = 0; kind < 2; kind++) {
                Due.equal("9 late by " + late, wave("bench 60 1 1 1;input 0 1" + gate, 1, kind),
                        Due.bits(1 + late, 60));
                Due.equal("9 1 late by " + late, wave("bench 60 1 1 1;input 1 1" + gate, 1, kind), Due.bits(0, late));
                Due.equal("9 every pulse passes", wave("bench 60 1 1 1;input 0 5 6 50 51" + gate, 1, kind),
                        Due.bits(5 + late, 5 + late, 50 + late, 50 + late));
                Due.equal("9 of a horizon of 4", wave("bench 4 1 1 1;input 0 1" + gate, 1, kind),
                        late <= 3 ? Due.bits(1 + late, 4) : 0L);
            }
        }
        Due.equal("9 cheap by cheap",
                wave("bench 30 1 1 1;input 0 2 4;gate same 0 9 9 2;gate not 1 9 9 9;", 2, 1),
                Due.bits(0, 12, 15, 30));
    }

    private static void shownByShown() {
        GlitchCourt x = court("bench 30 4 0 0;input 0 2 5;gate same 0 9 9 1;gate same 1 9 9 1;gate not 2 9 9 1;");
        x.replay(1, 4, 4);
        Due.equal("9 settled at 4", x.wave(1, 0), Due.bits(3, 3, 5, 5));
        Due.equal("9 one later", x.wave(2, 0), Due.bits(4, 4, 6, 6));
        Due.equal("9 two later", x.wave(3, 0), Due.bits(0, 4, 6, 6, 8, 30));
        Due.equal("9 cheap as before", x.wave(2, 1), Due.bits(4, 6));
        Due.equal("9 dear as before", x.wave(2, 2), 0L);
    }

    /** A gate of two gates takes the waves of both in the class of its own wave. */
    private static void twoNetsOfEachClass() {
        String text = "bench 20 9 0 0;input 0 2 5;gate same 0 9 9 1;gate not 0 9 9 2;";
        for (String nets : new String[] {"1 2", "2 1"}) {
            GlitchCourt x = court(text + "gate xor " + nets + " 1 1 1;");
            Due.equal("9 cheap net 1", x.wave(1, 1), Due.bits(3, 5));
            Due.equal("9 cheap net 2", x.wave(2, 1), Due.bits(0, 3, 7, 20));
            Due.equal("9 cheap of " + nets, x.wave(3, 1), Due.bits(0, 3, 5, 6, 8, 20));
            Due.equal("9 dear net 1", x.wave(1, 2), 0L);
            Due.equal("9 dear net 2", x.wave(2, 2), Due.bits(0, 20));
            Due.equal("9 dear of " + nets, x.wave(3, 2), Due.bits(0, 20));
            x.replay(1, 3, 3);
            Due.equal("9 shown of " + nets, x.wave(3, 0), Due.bits(0, 6, 8, 20));
            x.replay(2, 6, 6);
            Due.equal("9 shown of both", x.wave(3, 0), Due.bits(0, 20));
            Due.equal("9 cheap as before", x.wave(3, 1), Due.bits(0, 3, 5, 6, 8, 20));
        }
    }

    private static void settledAndRuled() {
        GlitchCourt x = court(MARKS);
        x.open(0, 1, 1, true);
        Due.equal("30 the gap is swallowed", x.judge(0), 0);
        for (int t = 0; t <= 20; t++) {
            Due.equal("8 neither at " + t, x.stateAt(1, t), 0);
        }
        x.accept(0);
        Due.equal("9 ruled to 1", x.wave(1, 0), Due.bits(3, 8, 11, 20));
        for (int t = 4; t <= 7; t++) {
            Due.equal("8 ruled at " + t, x.stateAt(1, t), t == 5 || t == 6 ? 1 : 0);
        }
        x.replay(1, 6, 7);
        Due.equal("9 settled before ruled", x.wave(1, 0), Due.bits(3, 5, 8, 8, 11, 20));
        int[] due = {0, 1, 2, 2, 0};
        for (int t = 4; t <= 8; t++) {
            Due.equal("8 then at " + t, x.stateAt(1, t), due[t - 4]);
        }
        Due.equal("6 settled", x.gate(1, 7), 2);
        Due.equal("6 ruled and not settled", x.gate(1, 8), 1);
        x.replay(1, 0, 20);
        Due.equal("8 settled at 0", x.stateAt(1, 0), 2);
        Due.equal("8 settled at the horizon", x.stateAt(1, 20), 2);
        Due.equal("8 always 0 of an input", x.stateAt(0, 5), 0);
        Due.equal("6 all settled", x.gate(1, 7), 21);
        Due.equal("6 none ruled any more", x.gate(1, 8), 0);
        Due.equal("9 dear throughout", x.wave(1, 0), Due.bits(13, 20));
    }

    // Promises 9 to 16

    /** No bit behind the horizon. */
    private static void bitsOfWaves() {
        for (int horizon : new int[] {4, 31, 32, 60}) {
            String head = "bench " + horizon + " 1 1 1;";
            for (String gate : new String[] {"not 0", "nand 0 0", "nor 0 0"}) {
                GlitchCourt x = court(head + "input 0;gate " + gate + " 1 1 1;gate same 1 1 1 1;");
                for (int net = 1; net <= 2; net++) {
                    for (int kind = 0; kind < 3; kind++) {
                        Due.equal("9 ones of " + gate, x.wave(net, kind), (1L << horizon + 1) - 1);
                    }
                }
                Due.equal("13 none wrong", x.wrong(1), 0);
            }
            Due.equal("9 last bit", wave(head + "input 0 " + horizon + ";", 0, 0), 1L << horizon);
            Due.equal("9 first bit", wave(head + "input 1 1;", 0, 0), 1L);
            Due.equal("7 last value", court(head + "input 0 " + horizon + ";").value(0, horizon, 0), 1);
            Due.equal("7 value before it", court(head + "input 0 " + horizon + ";").value(0, horizon - 1, 0), 0);
        }
    }

    private static String everyTime(int horizon) {
        StringBuilder text = new StringBuilder("bench " + horizon + " 1 1 1;input 0");
        for (int t = 1; t <= horizon; t++) {
            text.append(' ').append(t);
        }
        return text.append(";gate same 0 1 1 1;").toString();
    }

    private static void changes() {
        for (int horizon : new int[] {4, 60}) {
            GlitchCourt x = court(everyTime(horizon));
            Due.equal("10 at every time", x.changes(0, 0), horizon);
            Due.equal("10 one later", x.changes(1, 1), horizon - 1);
            Due.equal("10 all swallowed", x.changes(1, 2), 0);
        }
        for (int value = 0; value < 2; value++) {
            String head = "bench 60 1 1 1;input " + value;
            Due.equal("10 none", court(head + ";").changes(0, 0), 0);
            Due.equal("10 at 1", court(head + " 1;").changes(0, 0), 1);
            Due.equal("10 at 60", court(head + " 60;").changes(0, 0), 1);
            Due.equal("10 at both", court(head + " 1 60;").changes(0, 0), 2);
        }
    }

    private static void quietFrom() {
        for (int value = 0; value < 2; value++) {
            String head = "bench 60 1 1 1;input " + value;
            Due.equal("11 from 0 on", court(head + ";").quietFrom(0, 0), 0);
            Due.equal("11 from 1 on", court(head + " 1;").quietFrom(0, 0), 1);
            Due.equal("11 from 59 on", court(head + " 1 59;").quietFrom(0, 0), 59);
            Due.equal("11 at the horizon alone", court(head + " 1 60;").quietFrom(0, 0), 60);
        }
        GlitchCourt x = court(everyTime(4));
        Due.equal("11 cheap", x.quietFrom(1, 1), 4);
        Due.equal("11 dear", x.quietFrom(1, 2), 0);
    }

    private static void shortest() {
        for (int value = 0; value < 2; value++) {
            String head = "bench 60 1 1 1;input " + value;
            Due.equal("12 no change", court(head + ";").shortest(0, 0), NONE);
            Due.equal("12 two runs", court(head + " 30;").shortest(0, 0), NONE);
            Due.equal("12 both at the ends", court(head + " 1;").shortest(0, 0), NONE);
            Due.equal("12 the last time alone", court(head + " 60;").shortest(0, 0), NONE);
            Due.equal("12 the longest one", court(head + " 1 60;").shortest(0, 0), 59);
            Due.equal("12 the first inner time", court(head + " 1 2;").shortest(0, 0), 1);
            Due.equal("12 the last inner time", court(head + " 59 60;").shortest(0, 0), 1);
            Due.equal("12 shorter ones at the ends", court(head + " 2 30 58;").shortest(0, 0), 28);
            Due.equal("12 the first one", court(head + " 5 7 10;").shortest(0, 0), 2);
            Due.equal("12 the last one", court(head + " 5 8 10;").shortest(0, 0), 2);
        }
        GlitchCourt x = court(everyTime(4));
        Due.equal("12 of the input", x.shortest(0, 2), 1);
        Due.equal("12 cheap", x.shortest(1, 1), 1);
        Due.equal("12 dear", x.shortest(1, 2), NONE);
        // 0 0 1 0 1: the horizon's run does not count.
        Due.equal("12 a horizon of 4", court("bench 4 1 1 1;input 0 2 4;").shortest(0, 0), 2);
    }

    private static void wrong() {
        GlitchCourt none = court("bench 60 1 1 1;input 0 1 3;gate same 0 1 1 1;");
        Due.equal("13 none", none.wrong(1), 0);
        Due.equal("14 none", none.firstWrong(1), NONE);
        Due.equal("15 none", none.allWrong(), 0);
        Due.equal("13 of an input", none.wrong(0), 0);
        Due.equal("14 of an input", none.firstWrong(0), NONE);
        GlitchCourt last = court("bench 60 1 1 1;input 0 59;gate same 0 9 9 1;");
        Due.equal("13 at the horizon alone", last.wrong(1), 1);
        Due.equal("14 at the horizon", last.firstWrong(1), 60);
        GlitchCourt first = court("bench 60 1 1 1;input 0 1 2;gate same 0 9 9 1;");
        Due.equal("13 at 2 alone", first.wrong(1), 1);
        Due.equal("14 the first one that can be", first.firstWrong(1), 2);
        GlitchCourt both = court("bench 60 1 1 1;input 0 1 2 59;gate same 0 9 9 1;gate same 0 9 9 1;");
        Due.equal("13 both", both.wrong(2), 2);
        Due.equal("14 the first of both", both.firstWrong(2), 2);
        Due.equal("15 of both nets", both.allWrong(), 4);
        Due.equal("15 without gates", new GlitchCourt().allWrong(), 0);
        Due.equal("15 of the last net", court(FULL).allWrong(), 2);
        both.deposit(2, 1);
        both.replay(1, 2, 2);
        Due.equal("13 settled", both.wrong(1), 1);
        Due.equal("14 settled", both.firstWrong(1), 60);
        Due.equal("15 one less", both.allWrong(), 3);
        Due.equal("16 the other net", both.worst(), 2);
        // Shown 0 and dear 1 is wrong as well.
        GlitchCourt late = court("bench 20 1 1 1;input 0 2;gate same 0 1 1 9;");
        Due.equal("13 too late", late.wrong(1), 8);
        Due.equal("14 from 3 on", late.firstWrong(1), 3);
    }

    private static void worst() {
        Due.equal("16 the last of 16", court(FULL).worst(), 15);
        Due.equal("16 none is wrong", court("bench 20 1 1 1;input 0 2;gate same 0 1 1 1;").worst(), 0);
        Due.equal("16 without gates", new GlitchCourt().worst(), 0);
        Due.equal("16 all alike", court("bench 20 1 1 1;input 0 2 4;" + "gate same 0 9 9 1;".repeat(3)).worst(), 1);
        String two = "bench 20 1 1 1;input 0 2 4;input 0 2 5;gate same 0 9 9 1;gate same 1 9 9 1;";
        Due.equal("16 one more", court(two + "gate same 0 9 9 1;").worst(), 3);
        Due.equal("16 the lower one of two", court(two + "gate same 1 9 9 1;").worst(), 3);
        Due.equal("16 the first one", court(two.replace("0 2 4", "0 2 6")).worst(), 2);
    }

    // Promises 17 to 19, 27 and 28

    private static void shape() {
        GlitchCourt x = court(CHAIN);
        for (int net = 1; net <= 12; net++) {
            Due.equal("6 cone of net " + net, x.gate(net, 6), net);
            Due.equal("17 of net " + net, x.dependsOn(net), (1 << net + 1) - 2);
            Due.equal("18 of net " + net, x.touches(net), (1 << 13) - (1 << net));
            Due.equal("19 of net " + net, x.longest(net), 9 * net);
        }
        Due.equal("18 of the input", x.touches(0), (1 << 13) - 2);
        Due.equal("19 of the input", x.longest(0), 0);
        Due.equal("23 the greatest cost", x.cost(12, 0, 60), 9 * 61 * 12);
        GlitchCourt y = court(FULL);
        for (int net = 4; net <= 15; net++) {
            Due.equal("6 cone of itself alone", y.gate(net, 6), 1);
            Due.equal("17 itself alone", y.dependsOn(net), 1 << net);
            Due.equal("18 itself alone", y.touches(net), 1 << net);
        }
        Due.equal("18 all gates", y.touches(0), 0xfff0);
        Due.equal("18 no gate", y.touches(3), 0);
        Due.equal("18 no gates at all", new GlitchCourt().touches(0), 0);
        // An input as the first or the second net, or behind another gate.
        GlitchCourt z = court("bench 9 1 1 1;input 0;input 0;gate and 0 1 1 2 1;gate not 2 4 3 1;gate or 3 0 5 5 1;");
        Due.equal("18 the first net", z.touches(0), 1 << 2 | 1 << 3 | 1 << 4);
        Due.equal("18 the second net", z.touches(1), 1 << 2 | 1 << 3 | 1 << 4);
        Due.equal("18 the second net alone",
                court("bench 9 1 1 1;input 0;input 0;gate and 0 1 1 1 1;gate not 0 1 1 1;").touches(1), 4);
        Due.equal("19 the greater fall delay", z.longest(2), 2);
        Due.equal("19 the greater rise delay", z.longest(3), 6);
        Due.equal("19 the longer way", z.longest(4), 11);
        Due.equal("19 the longer way by the second net",
                court("bench 9 1 1 1;input 0;gate not 0 3 1 1;gate or 0 1 1 1 1;").longest(2), 4);
    }

    private static void shares() {
        Due.equal("27 without gates", new GlitchCourt().excess(), 0.0);
        Due.equal("27 nothing dear changes", court("bench 20 1 1 1;input 0 2 4;gate same 0 9 9 1;").excess(), 0.0);
        Due.equal("27 nothing shown changes", court("bench 9 1 1 1;input 0 2;gate same 0 1 1 9;").excess(), 0.0);
        Due.equal("27 as many", court("bench 20 1 1 1;input 0 2;gate same 0 1 1 1;").excess(), 1.0);
        Due.equal("27 a third", court("bench 9 1 1 1;input 0 2;" + "gate same 0 1 1 1;"
                + "gate same 0 1 1 9;gate same 0 1 1 9;").excess(), 1.0 / 3.0);
        Due.equal("27 the input does not count", court("bench 9 1 1 1;input 0 2 4 6 8;gate same 0 9 9 1;").excess(),
                0.0);
        GlitchCourt settled = court("bench 20 1 0 1;input 0 2 4 10;gate same 0 3 3 1;");
        Due.equal("27 three by one", settled.excess(), 3.0);
        settled.replay(1, 3, 4);
        Due.equal("27 one by one", settled.excess(), 1.0);
        Due.equal("27 of 16 nets", court(FULL).excess(), 24.0 / 22.0);
        Due.equal("28 of 16 nets", court(FULL).settledShare(), 0.0f);
        Due.equal("28 without gates", new GlitchCourt().settledShare(), 0.0f);
        GlitchCourt x = court(CHAIN.replace("60 1 9 1", "60 1 0 1"));
        Due.equal("28 nothing", x.settledShare(), 0.0f);
        x.replay(12, 60, 60);
        Due.equal("28 one of 732", x.settledShare(), 1.0f / 732.0f);
        for (int net = 1; net <= 12; net++) {
            x.replay(net, 0, 60);
        }
        Due.equal("28 all", x.settledShare(), 1.0f);
    }

    // Promises 38 and 39

    private static void formatLetters() {
        GlitchCourt x = court(MARKS);
        Due.equal("38 neither ruled nor settled", Due.formatted(x, 1, 0), "000110011001111111111");
        x.open(0, 1, 1, true);
        x.open(0, 1, 2, true);
        x.judge(0);
        x.judge(1);
        x.accept(0);
        x.accept(1);
        x.replay(1, 4, 4);
        x.replay(1, 13, 13);
        Due.equal("38 all six letters", Due.formatted(x, 1, 0), "0001Lhhll0011H1111111");
        x.replay(1, 6, 7);
        Due.equal("38 settled before ruled", Due.formatted(x, 1, 0), "0001LhLLl0011H1111111");
        Due.equal("38 cheap", Due.formatted(x, 1, 1), "000110011001111111111");
        Due.equal("38 dear", Due.formatted(x, 1, 2), "000000000000011111111");
        Due.equal("38 an input", Due.formatted(x, 0, 0), "001100110011111111111");
        x.replay(1, 0, 20);
        Due.equal("38 to both ends", Due.formatted(x, 1, 0), "LLLLLLLLLLLLLHHHHHHHH");
    }

    private static void formatLengths() {
        for (int horizon : new int[] {4, 5, 59, 60}) {
            GlitchCourt x = court("bench " + horizon + " 1 1 1;input 0 " + horizon + ";");
            Due.equal("39 no call yet", x.formattedByte(0), NONE);
            Due.equal("38 length", x.format(0, 0), horizon + 1);
            Due.equal("39 the first byte", x.formattedByte(0), (int) '0');
            Due.equal("39 the last byte", x.formattedByte(horizon), (int) '1');
            for (int index : Due.outside(0, horizon)) {
                Due.equal("39 index " + index, x.formattedByte(index), NONE);
            }
        }
    }

    /** The text stays as it was at the call, whatever comes behind it. */
    private static void formatStays() {
        GlitchCourt x = court(MARKS);
        x.format(1, 0);
        x.saveSnapshot();
        x.replay(1, 3, 4);
        Due.equal("39 behind an operation", x.formattedByte(3), (int) '1');
        x.format(1, 0);
        x.undo();
        Due.equal("39 behind undo", x.formattedByte(3), (int) 'L');
        x.restoreSnapshot();
        Due.equal("39 behind restoreSnapshot", x.formattedByte(3), (int) 'L');
        Due.load(x, "bench 4 1 1 1;input 1;gate same 0 1 1 1;");
        Due.equal("39 behind load", x.formattedByte(3), (int) 'L');
        Due.equal("39 its last byte behind load", x.formattedByte(20), (int) '1');
        Due.equal("39 behind its end", x.formattedByte(21), NONE);
        Due.noSuch("38 refused", () -> x.format(2, 0));
        Due.noSuch("38 refused, too", () -> x.format(1, 3));
        Due.equal("39 behind a refused call", x.formattedByte(3), (int) 'L');
        Due.equal("38 a shorter text", x.format(1, 0), 5);
        Due.equal("39 its last byte", x.formattedByte(4), (int) '1');
        Due.equal("39 the longer one is gone", x.formattedByte(5), NONE);
    }
}
