/** The edges of the promises 20 to 26 and 29 to 37, and of the sections 2 to 4 of the Description. */
public final class CourtEdgeTest {
    private static final int NONE = -1;
    /**
     * Net 1 is shown 1 at 3 to 5 and at 8 and 9, and dear 0 throughout: the pulses 3 to 5, 6 to 7 (of value 0) and
     * 8 to 9. All is for nothing, and all are judged swallowed.
     */
    private static final String THREE = "bench 20 9 0 0;input 0 2 5 7 9;gate same 0 9 9 1;";
    /** Nets 1 and 2 (cone 2) have a pulse 3 to 4 and one 4 to 5 of 1; both are dear 0. The stakes are 4 and 8. */
    private static final String TWO = "bench 20 2 2 5;input 0 2 4;gate same 0 9 9 1;gate same 1 1 1 1;";

    public static void main(String[] args) {
        endsOfPulses();
        lengthsOfPulses();
        freeTimes();
        numbersOfPulses();
        valueAsShown();
        pulseRanges();
        stakes();
        judging();
        fees();
        disputeRanges();
        disputeNumbers();
        disputesByState();
        twentyDisputes();
        overlaps();
        pendingOnly();
        openChecks();
        windowStays();
        appealWindows();
        appealStakes();
        otherPartyPays();
        appealStates();
        accepted();
        acceptedCounts();
        ruledAgain();
        costs();
        gains();
        affordable();
        bestOfEqual();
        bestPulseNumber();
        misjudged();
        replayed();
        replayedCounts();
        delays();
        delayCones();
        ruledNoMore();
        toggles();
        toggleReaders();
        finishedStay();
        deposits();
        limits();
        Due.close("CourtEdgeTest");
    }

    private static GlitchCourt court(String text) {
        return Due.court(text);
    }

    // Section 2 and promise 20: pulses

    /** A run that has the time 0 or the horizon in it is no pulse. */
    private static void endsOfPulses() {
        String gate = ";gate same 0 9 9 1;";
        Due.equal("6 no run but one", court("bench 9 20 1 1;input 0" + gate).gate(1, 9), 0);
        Due.equal("6 one run of time 0, one of the horizon", court("bench 9 20 1 1;input 1 1" + gate).gate(1, 9), 0);
        GlitchCourt early = court("bench 9 20 1 1;input 1 1 2" + gate);
        Due.equal("6 the run behind that of time 0", early.gate(1, 9), 1);
        Due.equal("20 it begins at 2", early.pulse(1, 0, 0), 2);
        Due.equal("20 and ends there", early.pulse(1, 0, 1), 2);
        GlitchCourt late = court("bench 9 20 1 1;input 0 7 8" + gate);
        Due.equal("6 just before the horizon", late.gate(1, 9), 1);
        Due.equal("20 it begins at 8", late.pulse(1, 0, 0), 8);
        Due.equal("20 and ends there, too", late.pulse(1, 0, 1), 8);
        Due.equal("6 up to the horizon", court("bench 9 20 1 1;input 0 7" + gate).gate(1, 9), 0);
        Due.equal("6 the horizon alone", court("bench 9 20 1 1;input 0 8" + gate).gate(1, 9), 0);
        Due.equal("6 the least horizon", court("bench 4 20 1 1;input 0 1 4" + gate).gate(1, 9), 0);
        Due.equal("6 the least horizon, one less", court("bench 4 20 1 1;input 0 1 3" + gate).gate(1, 9), 1);
        GlitchCourt wide = court("bench 60 20 1 1;input 0 38 58" + gate);
        Due.equal("20 20 times up to 58", wide.pulse(1, 0, 1) - wide.pulse(1, 0, 0), 19);
        Due.equal("6 of the greatest horizon", court("bench 60 20 1 1;input 0 57 60" + gate).gate(1, 9), 0);
        Due.equal("6 of it, one before", court("bench 60 20 1 1;input 0 57 58 59" + gate).gate(1, 9), 2);
    }

    /** As long as the limit is a pulse, one more is none. */
    private static void lengthsOfPulses() {
        for (int limit = 1; limit <= 20; limit++) {
            for (int value = 0; value < 2; value++) {
                String text = "bench 40 " + limit + " 1 1;input " + value + " 2 ";
                String gate = ";gate same 0 9 9 1;";
                GlitchCourt x = court(text + (2 + limit) + gate);
                Due.equal("6 as long as the limit " + limit, x.gate(1, 9), 1);
                Due.equal("20 first time", x.pulse(1, 0, 0), 3);
                Due.equal("20 last time", x.pulse(1, 0, 1), 2 + limit);
                Due.equal("20 value", x.pulse(1, 0, 2), 1 - value);
                Due.equal("6 one longer than the limit " + limit, court(text + (3 + limit) + gate).gate(1, 9), 0);
                if (limit > 1) {
                    x.setLimit(limit - 1);
                    Due.equal("6 with a limit of one less", x.gate(1, 9), 0);
                    x.setLimit(limit);
                    Due.equal("6 with the limit again", x.gate(1, 9), 1);
                }
            }
        }
    }

    /** One time that is neither ruled nor settled is enough, wherever it is. */
    private static void freeTimes() {
        // Net 1 is shown and dear 1 at 3 to 5.
        String text = "bench 9 3 0 0;input 0 2 5;gate same 0 1 1 1;";
        for (int free = 3; free <= 5; free++) {
            GlitchCourt x = court(text);
            for (int t = 3; t <= 5; t++) {
                if (t != free) {
                    x.replay(1, t, t);
                }
            }
            Due.equal("6 free at " + free, x.gate(1, 9), 1);
            x.replay(1, 2, 2);
            x.replay(1, 6, 6);
            Due.equal("6 settled next to it", x.gate(1, 9), 1);
            Due.equal("20 the whole run", x.pulse(1, 0, 1) - x.pulse(1, 0, 0), 2);
            x.replay(1, free, free);
            Due.equal("6 settled at " + free, x.gate(1, 9), 0);
        }
        GlitchCourt y = court(text);
        y.open(0, 1, 0, true);
        y.judge(0);
        y.replay(1, 4, 5);
        Due.equal("6 one time is free", y.gate(1, 9), 1);
        y.accept(0);
        Due.equal("6 one ruled, two settled", y.gate(1, 9), 0);
        GlitchCourt z = court(text);
        z.open(0, 1, 0, true);
        z.judge(0);
        z.accept(0);
        Due.equal("6 three ruled", z.gate(1, 8), 3);
        Due.equal("6 all are ruled", z.gate(1, 9), 0);
    }

    private static void numbersOfPulses() {
        GlitchCourt x = court(THREE);
        int[][] due = {{3, 5, 1}, {6, 7, 0}, {8, 9, 1}};
        Due.equal("6 three", x.gate(1, 9), 3);
        for (int index = 0; index < 3; index++) {
            for (int what = 0; what < 3; what++) {
                Due.equal("20 pulse " + index + " " + what, x.pulse(1, index, what), due[index][what]);
            }
        }
        x.setLimit(2);
        Due.equal("20 the first one is too long", x.pulse(1, 0, 0), 6);
        Due.noSuch("20 one less", () -> x.pulse(1, 2, 0));
        x.setLimit(1);
        Due.noSuch("20 none", () -> x.pulse(1, 0, 0));
    }

    /** A pulse that begins with ruled times has the value that is shown there. */
    private static void valueAsShown() {
        GlitchCourt x = joined(0);
        x.replay(1, 3, 5);
        Due.equal("9 ruled at 6 and 7, free at 8 and 9", x.wave(1, 0), Due.bits(6, 9));
        Due.equal("9 cheap as before", x.wave(1, 1), Due.bits(3, 5, 8, 9));
        Due.equal("20 its first time", x.pulse(1, 0, 0), 6);
        Due.equal("20 its last time", x.pulse(1, 0, 1), 9);
        Due.equal("20 its value", x.pulse(1, 0, 2), 1);
        Due.equal("29 side by side", x.open(1, 1, 0, true), 2);
        Due.equal("21 its value", x.dispute(2, 3), 1);
    }

    private static void pulseRanges() {
        GlitchCourt x = court(THREE);
        for (int index : Due.outside(0, 2)) {
            Due.noSuch("20 index " + index, () -> x.pulse(1, index, 0));
            Due.noSuch("29 index " + index, () -> x.open(0, 1, index, true));
        }
        for (int net : Due.outside(1, 1)) {
            Due.noSuch("20 net " + net, () -> x.pulse(net, 0, 0));
            Due.noSuch("29 net " + net, () -> x.open(0, net, 0, true));
        }
        for (int what : Due.outside(0, 4)) {
            Due.noSuch("20 what " + what, () -> x.pulse(1, 0, what));
            Due.noSuch("20 what of the last pulse " + what, () -> x.pulse(1, 2, what));
        }
    }

    private static void stakes() {
        GlitchCourt x = court(TWO);
        Due.equal("20 stake of cone 1", x.pulse(1, 0, 3), 4);
        Due.equal("20 stake of cone 2", x.pulse(2, 0, 3), 8);
        Due.equal("20 stake of rate 0", court(THREE).pulse(1, 0, 3), 0);
        StringBuilder great = new StringBuilder("bench 60 20 9 1;input 0 2 22;");
        for (int net = 0; net < 12; net++) {
            great.append("gate same ").append(net).append(" 9 9 1;");
        }
        GlitchCourt y = court(great + "purses 99999 99999 0;");
        Due.equal("20 the greatest stake", y.pulse(12, 0, 3), 9 * 20 * 12);
        y.open(0, 12, 0, false);
        Due.equal("21 the greatest stake", y.dispute(0, 9), 9 * 20 * 12);
        stakesStay();
    }

    /** The stake is that of the window, whatever becomes of the pulse and of the dispute. */
    private static void stakesStay() {
        GlitchCourt x = court(TWO + "purses 99 99 99;");
        x.open(0, 2, 0, true);
        Due.equal("21 open", x.dispute(0, 9), 8);
        x.replay(2, 4, 4);
        Due.equal("20 of what is left of the pulse", x.pulse(2, 0, 3), 4);
        Due.equal("21 one time of it settled", x.dispute(0, 9), 8);
        x.judge(0);
        Due.equal("21 judged", x.dispute(0, 9), 8);
        x.accept(0);
        Due.equal("21 accepted", x.dispute(0, 9), 8);
        x.undo();
        x.appeal(0);
        Due.equal("21 appealed", x.dispute(0, 9), 8);
        x.undo();
        x.toggle(0, 0);
        Due.equal("21 dropped", x.dispute(0, 9), 8);
    }

    // Section 3: judging

    /** As many times as the delay are swallowed, one more is real: by the rise delay for 1, the fall delay for 0. */
    private static void judging() {
        for (int delay = 1; delay <= 9; delay++) {
            int other = delay == 5 ? 1 : 10 - delay;
            for (int more = 0; more < 2; more++) {
                int end = 2 + delay + more;
                String high = "bench 40 20 0 0;input 0 2 " + end + ";gate same 0 " + delay + " " + other + " 1;";
                String low = "bench 40 20 0 0;input 1 2 " + end + ";gate same 0 " + other + " " + delay + " 1;";
                for (String text : new String[] {high, low}) {
                    GlitchCourt x = court(text);
                    Due.equal("20 would be judged in " + text, x.pulse(1, 0, 4), more);
                    x.open(0, 1, 0, true);
                    Due.equal("30 judged in " + text, x.judge(0), more);
                    Due.equal("21 verdict in " + text, x.dispute(0, 7), more);
                    Due.equal("21 loser in " + text, x.dispute(0, 8), more);
                }
            }
        }
    }

    /** Who has just the fee can pay it, who has one less cannot; whoever opened and whatever was claimed. */
    private static void fees() {
        for (int fee : new int[] {0, 1, 99}) {
            for (int drawn = 0; drawn < 8; drawn++) {
                int party = drawn & 1;
                boolean claim = (drawn & 2) != 0;
                boolean real = (drawn & 4) != 0;
                int loser = claim == real ? 1 - party : party;
                String head = "bench 20 9 1 " + fee + ";input 0 2 4;gate same 0 " + (real ? 1 : 2) + " 9 1;purses ";
                GlitchCourt x = court(head + (loser == 0 ? fee + " 0 0;" : "0 " + fee + " 0;"));
                x.open(party, 1, 0, claim);
                Due.equal("30 just the fee " + fee, x.judge(0), real ? 1 : 0);
                Due.equal("30 then nothing", x.size(7) + x.size(8), 0);
                Due.equal("30 all to the court", x.size(9), fee);
                Due.equal("21 the loser", x.dispute(0, 8), loser);
                if (fee > 0) {
                    int less = fee - 1;
                    GlitchCourt y = court(head + (loser == 0 ? less + " 99 0;" : "99 " + less + " 0;"));
                    y.open(party, 1, 0, claim);
                    Due.equal("30 one less than the fee", y.judge(0), -3);
                    Due.equal("21 still open", y.dispute(0, 6), 0);
                }
            }
        }
    }

    // Section 3 and promises 21, 22 and 29: disputes

    private static void disputeRanges() {
        GlitchCourt none = new GlitchCourt();
        for (int number : Due.outside(0, 0)) {
            noDispute(none, number);
        }
        noDispute(none, 0);
        GlitchCourt x = court(THREE);
        x.open(0, 1, 0, true);
        x.open(0, 1, 2, true);
        for (int number : Due.outside(0, 1)) {
            noDispute(x, number);
        }
        for (int what : Due.outside(0, 9)) {
            Due.noSuch("21 what " + what, () -> x.dispute(0, what));
            Due.noSuch("21 what of the last one " + what, () -> x.dispute(1, what));
        }
        for (int state : Due.outside(0, 4)) {
            Due.illegal("22 state " + state, () -> x.disputes(state));
        }
    }

    private static void noDispute(GlitchCourt x, int number) {
        Due.noSuch("21 dispute " + number, () -> x.dispute(number, 0));
        Due.noSuch("30 judge " + number, () -> x.judge(number));
        Due.noSuch("31 appeal " + number, () -> x.appeal(number));
        Due.noSuch("32 accept " + number, () -> x.accept(number));
    }

    private static void disputeNumbers() {
        GlitchCourt x = court(THREE);
        Due.equal("5 no dispute", x.size(6), 0);
        Due.equal("29 the first", x.open(1, 1, 2, false), 0);
        Due.equal("29 the second", x.open(0, 1, 0, true), 1);
        Due.equal("5 two", x.size(6), 2);
        int[] first = {1, 8, 9, 1, 1, 0, 0, NONE, NONE, 0};
        int[] second = {1, 3, 5, 1, 0, 1, 0, NONE, NONE, 0};
        for (int what = 0; what < 10; what++) {
            Due.equal("21 the first " + what, x.dispute(0, what), first[what]);
            Due.equal("21 the second " + what, x.dispute(1, what), second[what]);
        }
        x.judge(0);
        Due.equal("21 a verdict", x.dispute(0, 7), 0);
        Due.equal("21 who claimed so has won", x.dispute(0, 8), 0);
        Due.equal("21 none of the other", x.dispute(1, 7), NONE);
    }

    private static void disputesByState() {
        GlitchCourt x = court("bench 30 2 0 0;input 0 2 4 6 8 10 12;input 0 2 4;gate same 0 9 9 1;gate same 1 9 9 1;");
        for (int state = 0; state < 5; state++) {
            Due.equal("22 none of state " + state, x.disputes(state), 0);
        }
        for (int i = 0; i < 5; i++) {
            x.open(0, 2, i, true);
        }
        x.open(0, 3, 0, true);
        for (int i = 1; i < 6; i++) {
            x.judge(i);
        }
        x.accept(2);
        x.appeal(3);
        x.appeal(4);
        x.toggle(1, 20);
        int[] due = {1, 1, 2, 1, 1};
        for (int state = 0; state < 5; state++) {
            Due.equal("22 state " + state, x.disputes(state), due[state]);
        }
    }

    /** 22 pulses of net 1 and as many of net 2, each of 2 times. */
    private static String many() {
        StringBuilder text = new StringBuilder("bench 60 2 0 0;input 0");
        for (int t = 2; t <= 46; t += 2) {
            text.append(' ').append(t);
        }
        return text.append(";gate same 0 9 9 1;gate same 0 9 9 1;").toString();
    }

    private static void twentyDisputes() {
        GlitchCourt x = court(many());
        Due.equal("6 pulses", x.gate(1, 9), 22);
        for (int i = 0; i < 20; i++) {
            Due.equal("29 room for dispute " + i, x.open(0, 1, i, true), i);
        }
        Due.equal("29 no room for another", x.open(0, 1, 20, true), -3);
        Due.equal("29 nor of another gate", x.open(0, 2, 0, true), -3);
        Due.equal("29 -2 comes before -3", x.open(0, 1, 19, true), -2);
        Due.illegal("29 the party before both", () -> x.open(2, 1, 19, true));
        Due.noSuch("29 the pulse before all", () -> x.open(2, 1, 22, true));
        Due.equal("5 twenty", x.size(6), 20);
        Due.equal("21 the last one", x.dispute(19, 1), 41);
        Due.noSuch("21 none behind it", () -> x.dispute(20, 1));
        Due.equal("30 the last one is judged", x.judge(19), 0);
        Due.equal("32 and accepted", x.accept(19), 2);
        Due.equal("29 finished ones count, too", x.open(0, 2, 0, true), -3);
        Due.equal("35 the others are dropped", x.toggle(0, 60), 19);
        Due.equal("29 dropped ones count, too", x.open(0, 2, 0, true), -3);
        x.undo();
        x.undo();
        x.undo();
        x.undo();
        Due.equal("29 room again", x.open(1, 1, 21, false), 19);
        Due.equal("29 and no more", x.open(1, 1, 20, false), -3);
    }

    /** One time in common bars a dispute, at either end; lying side by side does not. */
    private static void overlaps() {
        GlitchCourt last = joined(0);
        last.replay(1, 3, 4);
        Due.equal("20 it begins at the last time of the window", last.pulse(1, 0, 0), 5);
        Due.equal("29 the last time in common", last.open(0, 1, 0, true), -2);
        last.replay(1, 5, 5);
        Due.equal("20 it begins behind the window", last.pulse(1, 0, 0), 6);
        Due.equal("29 side by side", last.open(0, 1, 0, true), 2);
        GlitchCourt first = joined(2);
        first.replay(1, 9, 9);
        Due.equal("20 it ends at the first time of the window", first.pulse(1, 0, 1), 8);
        Due.equal("29 the first time in common", first.open(0, 1, 0, true), -2);
        first.replay(1, 8, 8);
        Due.equal("20 it ends before the window", first.pulse(1, 0, 1), 7);
        Due.equal("29 side by side again", first.open(0, 1, 0, true), 2);
        GlitchCourt around = joined(0);
        Due.equal("20 the whole run", around.pulse(1, 0, 1) - around.pulse(1, 0, 0), 6);
        Due.equal("29 a window inside", around.open(0, 1, 0, true), -2);
        GlitchCourt inside = court(THREE);
        inside.open(0, 1, 0, true);
        inside.replay(1, 3, 3);
        inside.replay(1, 5, 5);
        Due.equal("20 4 alone", inside.pulse(1, 0, 1) - inside.pulse(1, 0, 0), 0);
        Due.equal("29 inside a window", inside.open(0, 1, 0, true), -2);
    }

    /** Of the three pulses one is disputed, and the gap is ruled to 1: the run is 3 to 9. */
    private static GlitchCourt joined(int disputed) {
        GlitchCourt x = court(THREE);
        x.open(0, 1, disputed, true);
        Due.equal("29 the gap beside it", x.open(0, 1, 1, true), 1);
        x.judge(1);
        x.accept(1);
        Due.equal("9 joined", x.wave(1, 0), Due.bits(3, 9));
        return x;
    }

    /** Open and judged disputes of the gate bar another one; accepted, appealed and dropped ones do not. */
    private static void pendingOnly() {
        GlitchCourt x = court(THREE + "gate same 0 9 9 1;");
        x.open(0, 1, 0, true);
        Due.equal("29 an open one", x.open(1, 1, 0, true), -2);
        Due.equal("29 of another gate", x.open(1, 2, 0, true), 1);
        x.judge(0);
        Due.equal("29 a judged one", x.open(1, 1, 0, true), -2);
        x.setDelay(1, 0, 2);
        Due.equal("29 a dropped one that was judged", x.open(1, 1, 0, true), 2);
        x.setDelay(1, 0, 9);
        Due.equal("29 a dropped one that was open", x.open(1, 1, 0, true), 3);
        // What is ruled 1 at 3 to 7 is one run with the free times 8 and 9.
        GlitchCourt y = court(THREE.replace("same 0 9 9", "same 0 2 9"));
        y.open(0, 1, 0, true);
        Due.equal("30 real", y.judge(0), 1);
        y.accept(0);
        y.open(0, 1, 0, true);
        y.judge(1);
        y.accept(1);
        Due.equal("6 ruled from 3 to 7", y.gate(1, 8), 5);
        Due.equal("20 from 3 to 9", y.pulse(1, 0, 1) - y.pulse(1, 0, 0), 6);
        Due.equal("29 accepted ones", y.open(0, 1, 0, true), 2);
        appealedDoesNotBar();
    }

    private static void appealedDoesNotBar() {
        // Shown 1 at 3 to 6 and 9 to 12, dear 1 at 4 to 13.
        GlitchCourt x = court("bench 30 20 0 0;input 0 2 6 8 12;gate same 0 2 2 1;");
        Due.equal("9 dear", x.wave(1, 2), Due.bits(4, 13));
        x.open(0, 1, 0, true);
        x.judge(0);
        Due.equal("31 real", x.appeal(0), 1);
        Due.equal("9 settled at 3 to 6", x.wave(1, 0), Due.bits(4, 6, 9, 12));
        x.replay(1, 7, 7);
        x.open(0, 1, 0, true);
        x.judge(1);
        Due.equal("29 its window", x.dispute(1, 1), 8);
        x.accept(1);
        // Ruled 1 at 8, so the run is 4 to 12, settled up to 7.
        Due.equal("20 the run", x.pulse(1, 0, 0), 4);
        Due.equal("20 its end", x.pulse(1, 0, 1), 12);
        Due.equal("29 an appealed and an accepted one", x.open(0, 1, 0, true), 2);
    }

    private static void openChecks() {
        GlitchCourt x = court(THREE);
        for (int party : Due.outside(0, 1)) {
            Due.illegal("29 party " + party, () -> x.open(party, 1, 0, true));
            Due.noSuch("29 no gate is checked first, party " + party, () -> x.open(party, 0, 0, true));
            Due.noSuch("29 no pulse is checked first, party " + party, () -> x.open(party, 1, 3, true));
        }
        x.open(0, 1, 0, true);
        for (int party : Due.outside(0, 1)) {
            Due.illegal("29 the party is checked before -2, " + party, () -> x.open(party, 1, 0, true));
        }
        Due.equal("29 party 1", x.open(1, 1, 2, true), 1);
        Due.equal("21 party 0", x.dispute(0, 4), 0);
        Due.equal("21 party 1", x.dispute(1, 4), 1);
    }

    /** The window and the value are those of the pulse when it was opened. */
    private static void windowStays() {
        GlitchCourt x = court(THREE.replace("same 0 9 9", "same 0 2 9"));
        x.open(0, 1, 0, true);
        x.replay(1, 3, 5);
        Due.equal("9 the pulse is shorter", x.wave(1, 0), Due.bits(4, 5, 8, 9));
        Due.equal("21 first time", x.dispute(0, 1), 3);
        Due.equal("21 last time", x.dispute(0, 2), 5);
        Due.equal("21 value", x.dispute(0, 3), 1);
        Due.equal("30 by its 3 times", x.judge(0), 1);
        Due.equal("32 all are settled", x.accept(0), 0);
    }

    // Promise 31

    private static String flipped(String text) {
        String[] gate = text.substring(text.indexOf("same 0 ") + 7, text.length() - 1).split(" ");
        return text.substring(0, text.indexOf("gate")).replace("input 0", "input 1")
                + "gate same 0 " + gate[1] + " " + gate[0] + " " + gate[2] + ";";
    }

    /**
     * The dear wave has the value at the first time of the window alone, just before it, at the last alone, behind,
     * and in the midst of it alone.
     */
    private static void appealWindows() {
        appealed("bench 20 9 0 0;input 0 2 4;gate same 0 1 1 2;", 4, 5, 1, 1);
        appealed("bench 20 9 0 0;input 0 2 4;gate same 0 1 1 3;", 5, 6, 1, 0);
        appealed("bench 20 9 0 0;input 0 2 4 6;gate same 0 2 9 5;", 7, 8, 0, 1);
        appealed("bench 20 9 0 0;input 0 2 4 7;gate same 0 2 9 5;", 7, 8, 0, 0);
        appealed("bench 20 9 0 0;input 0 2 6;gate same 0 3 1 2;", 4, 7, 1, 1);
    }

    private static void appealed(String text, int first, int last, int cheap, int dear) {
        for (int value = 1; value >= 0; value--) {
            GlitchCourt x = court(value == 1 ? text : flipped(text));
            x.open(0, 1, 0, true);
            Due.equal("21 first in " + text, x.dispute(0, 1), first);
            Due.equal("21 last in " + text, x.dispute(0, 2), last);
            Due.equal("21 value in " + text, x.dispute(0, 3), value);
            Due.equal("30 judged in " + text, x.judge(0), cheap);
            Due.equal("26 misjudged in " + text, x.misjudged(), cheap == dear ? 0 : 1);
            Due.equal("31 appealed in " + text, x.appeal(0), dear);
            Due.equal("21 verdict in " + text, x.dispute(0, 7), dear);
            Due.equal("26 no more in " + text, x.misjudged(), 0);
            Due.equal("6 settled in " + text, x.gate(1, 7), last - first + 1);
            Due.equal("8 before the window", x.stateAt(1, first - 1), 0);
            Due.equal("8 first time", x.stateAt(1, first), 2);
            Due.equal("8 last time", x.stateAt(1, last), 2);
            Due.equal("8 behind the window", x.stateAt(1, last + 1), 0);
        }
    }

    /** The verdict stays: the loser pays the stake, and needs as much. Net 2 is cheaply swallowed with a rise of 2. */
    private static void appealStakes() {
        String text = TWO.replace("same 1 1", "same 1 2");
        for (int loser = 0; loser < 2; loser++) {
            GlitchCourt x = court(text + (loser == 0 ? "purses 13 0 0;" : "purses 0 13 0;"));
            x.open(loser, 2, 0, true);
            x.judge(0);
            Due.equal("31 just the stake", x.appeal(0), 0);
            Due.equal("31 nothing is left", x.size(7) + x.size(8), 0);
            Due.equal("31 the court has fee and stake", x.size(9), 13);
            GlitchCourt y = court(text + (loser == 0 ? "purses 12 99 0;" : "purses 99 12 0;"));
            y.open(loser, 2, 0, true);
            y.judge(0);
            Due.equal("31 one less than the stake", y.appeal(0), -3);
            Due.equal("21 still judged", y.dispute(0, 6), 1);
            y.deposit(loser, 1);
            Due.equal("31 one more is enough", y.appeal(0), 0);
        }
        GlitchCourt z = court(THREE);
        z.open(0, 1, 0, true);
        z.judge(0);
        Due.equal("31 a stake of 0 with nothing", z.appeal(0), 0);
    }

    /** The verdict is changed: the other party pays the stake of 8, or all that it has. */
    private static void otherPartyPays() {
        int[] has = {0, 7, 8, 9, 99999};
        for (int other : has) {
            for (int party = 0; party < 2; party++) {
                GlitchCourt x = court(TWO + "purses " + (party == 0 ? "13 " + other : other + " 13") + " 0;");
                x.open(party, 2, 0, false);
                Due.equal("30 real at first", x.judge(0), 1);
                Due.equal("21 who opened it loses", x.dispute(0, 8), party);
                Due.equal("31 changed", x.appeal(0), 0);
                int paid = Math.min(other, 8);
                Due.equal("31 who appealed keeps the stake", x.size(7 + party), 8);
                Due.equal("31 the other one pays of " + other, x.size(8 - party), other - paid);
                Due.equal("31 to the court", x.size(9), 5 + paid);
                Due.equal("21 the other one has lost", x.dispute(0, 8), 1 - party);
            }
        }
        // Who appeals needs the stake though he will not pay it.
        GlitchCourt y = court(TWO + "purses 12 99 0;");
        y.open(0, 2, 0, false);
        y.judge(0);
        Due.equal("31 less than the stake, though it would change", y.appeal(0), -3);
    }

    /** Only an open dispute is judged, only a judged one is appealed or accepted. */
    private static void appealStates() {
        GlitchCourt x = court(THREE + "gate same 0 9 9 1;");
        x.open(0, 1, 0, true);
        Due.equal("31 an open one", x.appeal(0), -2);
        Due.equal("32 an open one", x.accept(0), -2);
        x.judge(0);
        Due.equal("30 a judged one", x.judge(0), -2);
        x.appeal(0);
        refusedByState(x, 0, "an appealed one");
        x.open(0, 1, 0, true);
        x.judge(1);
        x.accept(1);
        refusedByState(x, 1, "an accepted one");
        x.open(0, 2, 0, true);
        x.open(0, 2, 1, true);
        x.judge(2);
        x.setDelay(2, 0, 8);
        refusedByState(x, 2, "a dropped one that was judged");
        refusedByState(x, 3, "a dropped one that was open");
        // -2 comes before -3.
        GlitchCourt y = court(TWO + "purses 5 0 0;");
        y.open(0, 1, 0, true);
        Due.equal("31 not judged, and less than the stake", y.appeal(0), -2);
        y.judge(0);
        Due.equal("30 not open, and less than the fee", y.judge(0), -2);
    }

    private static void refusedByState(GlitchCourt x, int dispute, String what) {
        Due.equal("30 " + what, x.judge(dispute), -2);
        Due.equal("31 " + what, x.appeal(dispute), -2);
        Due.equal("32 " + what, x.accept(dispute), -2);
    }

    // Promise 32

    /** Ruled with the value of the dispute if real, with the opposite one if swallowed; nothing beside the window. */
    private static void accepted() {
        for (int drawn = 0; drawn < 4; drawn++) {
            int value = drawn & 1;
            boolean real = drawn > 1;
            int delay = real ? 2 : 3;
            GlitchCourt x = court("bench 20 9 0 0;input " + (1 - value) + " 2 5;gate same 0 " + delay + " " + delay
                    + " 1;");
            x.open(0, 1, 0, true);
            Due.equal("30 verdict", x.judge(0), real ? 1 : 0);
            Due.equal("32 three times", x.accept(0), 3);
            long run = Due.bits(3, 5);
            long all = Due.bits(0, 20);
            long due = value == 1 ? run : all ^ run;
            Due.equal("9 ruled, value " + value + " real " + real, x.wave(1, 0), real ? due : value == 1 ? 0L : all);
            for (int t = 0; t <= 20; t++) {
                Due.equal("8 at " + t, x.stateAt(1, t), t >= 3 && t <= 5 ? 1 : 0);
            }
            Due.equal("21 state", x.dispute(0, 6), 3);
            Due.equal("21 the verdict stays", x.dispute(0, 7), real ? 1 : 0);
        }
    }

    /** Only times that were neither ruled nor settled are counted. */
    private static void acceptedCounts() {
        for (int settled = 0; settled <= 3; settled++) {
            GlitchCourt x = court(THREE);
            x.open(0, 1, 0, true);
            x.judge(0);
            if (settled > 0) {
                x.replay(1, 3, 2 + settled);
            }
            Due.equal("32 without " + settled + " settled ones", x.accept(0), 3 - settled);
            Due.equal("6 ruled", x.gate(1, 8), 3 - settled);
        }
        GlitchCourt y = court(THREE);
        y.open(0, 1, 0, true);
        y.open(0, 1, 1, true);
        y.judge(0);
        y.judge(1);
        y.replay(1, 3, 3);
        Due.equal("32 the gap", y.accept(1), 2);
        Due.equal("32 beside it", y.accept(0), 2);
    }

    /** In place of what they were ruled before, to 0 and to 1. */
    private static void ruledAgain() {
        for (int value = 0; value < 2; value++) {
            // The time 6 between two pulses is ruled like these, then all of it away.
            GlitchCourt x = court("bench 20 5 0 0;input " + value + " 2 5 6 7;gate same 0 9 9 1;");
            x.open(0, 1, 1, true);
            x.judge(0);
            Due.equal("32 one time", x.accept(0), 1);
            x.open(0, 1, 0, true);
            Due.equal("21 the run around it", x.dispute(1, 2) - x.dispute(1, 1), 4);
            x.judge(1);
            Due.equal("32 one of five was ruled", x.accept(1), 4);
            Due.equal("9 ruled away", x.wave(1, 0), value == 0 ? 0L : Due.bits(0, 20));
            Due.equal("6 five are ruled", x.gate(1, 8), 5);
        }
    }

    // Promises 23 to 26 and 33

    private interface Window {
        Object of(int net, int from, int to);
    }

    private static void windows(String what, GlitchCourt x, Window call) {
        int[][] illegal = {{-1, -1}, {-1, 0}, {0, 21}, {20, 21}, {21, 21}, {1, 0}, {20, 19}, {20, 0}, {-1, 21},
            {Integer.MIN_VALUE, 5}, {5, Integer.MAX_VALUE}, {5, Integer.MIN_VALUE}, {Integer.MAX_VALUE, 5},
            {Integer.MIN_VALUE, Integer.MAX_VALUE}};
        for (int[] row : illegal) {
            String times = " from " + row[0] + " to " + row[1];
            Due.illegal(what + times, () -> call.of(1, row[0], row[1]));
            for (int net : Due.outside(1, 2)) {
                Due.noSuch(what + times + " of net " + net, () -> call.of(net, row[0], row[1]));
            }
        }
    }

    private static void costs() {
        GlitchCourt x = court(TWO + "purses 0 0 9999;");
        windows("23", x, (net, from, to) -> x.cost(net, from, to));
        Due.equal("23 time 0", x.cost(1, 0, 0), 2);
        Due.equal("23 the horizon", x.cost(2, 20, 20), 4);
        Due.equal("23 two times", x.cost(1, 19, 20), 4);
        Due.equal("23 all times", x.cost(2, 0, 20), 84);
        Due.equal("23 rate 0", court(THREE).cost(1, 0, 20), 0);
    }

    private static void gains() {
        GlitchCourt x = court(TWO);
        windows("24", x, (net, from, to) -> x.gain(net, from, to));
        Due.equal("24 before it", x.gain(1, 0, 2), 0);
        Due.equal("24 its first time", x.gain(1, 0, 3), 2);
        Due.equal("24 its last time", x.gain(1, 4, 20), 2);
        Due.equal("24 behind it", x.gain(1, 5, 20), 0);
        Due.equal("24 all times", x.gain(1, 0, 20), 4);
        Due.equal("24 net 2 alone", x.gain(2, 0, 20), 2);
        x.deposit(2, 99);
        x.replay(1, 3, 3);
        Due.equal("24 what is settled gains nothing", x.gain(1, 3, 3), 0);
        Due.equal("24 the rest", x.gain(1, 3, 4), 2);
        GlitchCourt y = court("bench 20 4 1 1;input 0 10;gate same 0 3 3 1;" + "gate same 1 1 1 3;".repeat(2));
        Due.equal("24 less than nothing", y.gain(1, 11, 12), 2 - 4);
        gainsOfRuled();
    }

    /** What is ruled rightly gains nothing, what is ruled wrongly gains as if it were not ruled. */
    private static void gainsOfRuled() {
        GlitchCourt right = court(THREE);
        right.open(0, 1, 0, true);
        right.judge(0);
        right.accept(0);
        Due.equal("24 ruled to 0, and dear 0", right.gain(1, 3, 5), 0);
        Due.equal("24 and what is not ruled", right.gain(1, 3, 9), 2);
        GlitchCourt wrong = joined(0);
        Due.equal("24 ruled to 1, and dear 0", wrong.gain(1, 6, 7), 2);
        Due.equal("24 nothing is settled by that", wrong.gate(1, 7), 0);
        Due.equal("24 it stays ruled", wrong.gate(1, 8), 2);
        Due.equal("33 settled", wrong.replay(1, 6, 7), 2);
        Due.equal("24 settled before ruled", wrong.gain(1, 6, 7), 0);
        Due.equal("24 settled in part", wrong.gain(1, 5, 7), 1);
    }

    /** A cost as great as the court's purse is taken, a greater one is not. */
    private static void affordable() {
        String text = "bench 20 9 1 0;input 0 2 6;input 0 2 4;gate same 0 9 9 1;gate same 1 9 9 1;purses 0 0 ";
        int[] due = {NONE, NONE, 300, 300, 200, 200};
        for (int purse = 0; purse < due.length; purse++) {
            Due.equal("25 the court has " + purse, court(text + purse + ";").bestReplay(), due[purse]);
        }
        // A dispute's fee makes the difference.
        GlitchCourt x = court(text.replace("9 1 0", "9 1 1").replace("purses 0 0 ", "purses 9 9 3;"));
        Due.equal("25 one too little", x.bestReplay(), 300);
        x.open(0, 2, 0, true);
        x.judge(0);
        Due.equal("25 just enough", x.bestReplay(), 200);
    }

    private static void bestOfEqual() {
        Due.equal("25 no gates", new GlitchCourt().bestReplay(), NONE);
        String head = "bench 20 9 1 0;input 0 2 4;";
        Due.equal("25 a pulse that is right", court(head + "gate same 0 1 1 1;purses 0 0 99;").bestReplay(), NONE);
        Due.equal("25 no pulse", court("bench 20 1 1 0;input 0 2 4;gate same 0 9 9 1;purses 0 0 99;").bestReplay(),
                NONE);
        // A gain of 1 is taken, one of 0 and one below 0 are not.
        Due.equal("25 a gain of 1", court("bench 20 9 1 0;input 0 2 3;gate same 0 9 9 1;purses 0 0 99;").bestReplay(),
                100);
        String alike = "gate same 0 9 9 1;gate same 0 9 9 1;purses 0 0 99;";
        Due.equal("25 alike: the lower number", court(head + alike).bestReplay(), 100);
        String cheaper = head + "gate same 0 1 1 1;gate same 1 9 9 1;gate same 0 9 9 1;purses 0 0 99;";
        Due.equal("24 the gain of net 2", court(cheaper).gain(2, 4, 5), 2);
        Due.equal("24 the gain of net 3", court(cheaper).gain(3, 3, 4), 2);
        Due.equal("25 of equal gains the cheaper one", court(cheaper).bestReplay(), 300);
        Due.equal("25 for nothing: the lower number", court(cheaper.replace("9 1 0", "9 0 0")).bestReplay(), 200);
        String by1 = cheaper.replace("input 0 2 4", "input 0 2 3");
        Due.equal("24 a gain of 1", court(by1).gain(2, 4, 4), 1);
        Due.equal("24 a gain of 1, too", court(by1).gain(3, 3, 3), 1);
        String right = by1.replace("same 0 1 1", "xor 0 0 1 1").replace("same 1 9 9", "or 0 1 9 9");
        Due.equal("24 of net 2 by both its nets", court(right).gain(2, 3, 3), 1);
        Due.equal("25 of gains of 1 the cheaper one", court(right).bestReplay(), 300);
        String dearer = head.replace("2 4", "2 4 8 11") + "gate same 0 1 1 1;gate same 1 9 9 1;purses 0 0 99;";
        Due.equal("25 the greater gain, though dearer", court(dearer).bestReplay(), 202);
        Due.equal("25 what is settled gains nothing", settledBest().bestReplay(), 102);
        negativeBest();
    }

    private static GlitchCourt settledBest() {
        GlitchCourt x = court("bench 20 9 0 0;input 0 2 5 7 9;gate same 0 9 9 1;");
        Due.equal("25 the first one", x.bestReplay(), 100);
        x.replay(1, 3, 4);
        Due.equal("25 one time of it is left", x.gain(1, 5, 5), 1);
        return x;
    }

    /** Settling the only pulse would make more wrong, or nothing less. */
    private static void negativeBest() {
        String pulse = "bench 20 9 0 0;input 0 2 4;gate same 0 9 9 1;";
        GlitchCourt y = court(pulse + "gate and 1 1 1 1 1;");
        Due.equal("24 net 2 follows net 1", y.gain(1, 3, 4), 4);
        Due.equal("25 and counts for it", y.bestReplay(), 100);
        // Net 1 is 1 at 3 to 6, dear at 5 to 9; nets 2 and 3 (late by 3) are 1 at 6 to 9, dear at 6 to 10.
        String late = "bench 30 4 0 0;input 0 2 6;gate same 0 3 4 1;";
        GlitchCourt z = court(late + "gate same 1 1 1 3;".repeat(3));
        Due.equal("9 dear net 1", z.wave(1, 2), Due.bits(5, 9));
        Due.equal("9 shown net 2", z.wave(2, 0), Due.bits(6, 9));
        Due.equal("9 dear net 2", z.wave(2, 2), Due.bits(6, 10));
        Due.equal("24 net 1", z.gain(1, 3, 6), 2 - 6);
        // The pulses of nets 2 to 4 are right.
        Due.equal("24 net 2", z.gain(2, 6, 9), 0);
        Due.equal("25 none makes it less", z.bestReplay(), NONE);
        Due.equal("25 a gain of 0", court(late + "gate same 1 1 1 3;").gain(1, 3, 6), 0);
        Due.equal("25 is none", court(late + "gate same 1 1 1 3;").bestReplay(), NONE);
    }

    private static void bestPulseNumber() {
        String text = "bench 20 9 0 0;input 0 2 4 6 9;";
        Due.equal("25 the last pulse of net 1", court(text + "gate same 0 9 9 1;").bestReplay(), 102);
        Due.equal("25 of net 15", court(text + "input 0;".repeat(3) + "gate same 1 1 1 1;".repeat(11)
                + "gate same 0 9 9 1;").bestReplay(), 1502);
        Due.equal("25 two alike in one gate", court("bench 20 9 0 0;input 0 2 4 6 8;gate same 0 9 9 1;").bestReplay(),
                100);
    }

    private static void misjudged() {
        Due.equal("26 no dispute", new GlitchCourt().misjudged(), 0);
        // The pulse of net 2 is judged real, and dear swallowed.
        GlitchCourt x = court(TWO + "purses 99 99 99;");
        x.open(0, 2, 0, true);
        Due.equal("26 an open one has no verdict", x.misjudged(), 0);
        x.judge(0);
        Due.equal("26 a judged one", x.misjudged(), 1);
        x.accept(0);
        Due.equal("26 an accepted one", x.misjudged(), 1);
        x.setDelay(1, 0, 1);
        Due.equal("26 as an appeal would find it now", x.misjudged(), 0);
        x.undo();
        x.undo();
        x.appeal(0);
        Due.equal("26 an appealed one", x.misjudged(), 0);
        x.setDelay(1, 0, 1);
        Due.equal("26 an appealed one by now", x.misjudged(), 1);
        x.undo();
        x.undo();
        x.setDelay(1, 1, 1);
        Due.equal("22 dropped", x.disputes(4), 1);
        Due.equal("26 a dropped one with a verdict", x.misjudged(), 1);
        x.undo();
        x.undo();
        x.setDelay(1, 1, 1);
        Due.equal("22 dropped without a verdict", x.disputes(4), 1);
        Due.equal("26 one without a verdict", x.misjudged(), 0);
    }

    private static void replayed() {
        GlitchCourt x = court(TWO + "purses 7 8 9999;");
        windows("33", x, (net, from, to) -> x.replay(net, from, to));
        Due.equal("33 nothing recorded", x.undoCount(), 0);
        for (int purse : new int[] {0, 1, 41, 42, 43}) {
            GlitchCourt y = court(TWO + "purses 99 99 " + purse + ";");
            boolean enough = purse >= 42;
            Due.equal("33 a cost of 42, the court has " + purse, y.replay(1, 0, 20), enough ? 21 : -3);
            Due.equal("5 the court then", y.size(9), enough ? purse - 42 : purse);
            Due.equal("5 party 0 pays nothing", y.size(7), 99);
            Due.equal("5 party 1 pays nothing", y.size(8), 99);
            Due.equal("6 settled", y.gate(1, 7), enough ? 21 : 0);
        }
        GlitchCourt z = court(THREE);
        Due.equal("33 for nothing", z.replay(1, 0, 20), 21);
    }

    private static void replayedCounts() {
        GlitchCourt x = court(THREE);
        Due.equal("33 time 0", x.replay(1, 0, 0), 1);
        Due.equal("33 the horizon", x.replay(1, 20, 20), 1);
        Due.equal("33 the horizon again", x.replay(1, 20, 20), 0);
        Due.equal("33 three of them new", x.replay(1, 0, 3), 3);
        Due.equal("33 none new", x.replay(1, 0, 3), 0);
        Due.equal("33 the last one new", x.replay(1, 2, 4), 1);
        Due.equal("33 all the rest", x.replay(1, 0, 20), 15);
        Due.equal("33 recorded, each", x.undoCount(), 7);
        GlitchCourt y = court(THREE);
        y.open(0, 1, 0, true);
        y.judge(0);
        y.accept(0);
        Due.equal("33 ruled ones were not settled", y.replay(1, 3, 5), 3);
    }

    // Section 4 and promises 34 and 35

    private static void delays() {
        GlitchCourt x = court(THREE);
        for (int which : Due.outside(0, 2)) {
            Due.illegal("34 which " + which, () -> x.setDelay(1, which, 5));
        }
        for (int which = 0; which < 3; which++) {
            int w = which;
            for (int delay : Due.outside(1, 9)) {
                Due.illegal("34 delay " + delay, () -> x.setDelay(1, w, delay));
            }
            for (int net : Due.outside(1, 1)) {
                Due.noSuch("34 net " + net, () -> x.setDelay(net, w, 5));
                Due.noSuch("34 the gate is checked first, " + net, () -> x.setDelay(net, 3, 0));
            }
            int before = which == 2 ? 1 : 9;
            Due.equal("34 before", x.setDelay(1, w, 1), before);
            Due.equal("34 the least", x.gate(1, 3 + w), 1);
            Due.equal("34 the least before", x.setDelay(1, w, 9), 1);
            Due.equal("34 the greatest", x.gate(1, 3 + w), 9);
            Due.equal("34 back", x.setDelay(1, w, before), 9);
        }
        Due.equal("34 recorded, each", x.undoCount(), 9);
    }

    /** Net 3 depends on net 2, net 4 does not; input 1 is a net of net 4 alone. All are for nothing and swallowed. */
    private static GlitchCourt disputed() {
        GlitchCourt x = court("bench 20 9 0 0;input 0 2 4 6 8;input 0 2 4 6 8;gate same 0 9 9 1;gate same 2 9 9 1;"
                + "gate same 1 9 9 1;");
        // Net 3 comes before net 2, whose ruled times take pulses of net 3 away.
        for (int net = 4; net >= 2; net--) {
            x.replay(net, 20, 20);
            int first = x.open(0, net, 0, true);
            x.open(0, net, 1, true);
            x.open(0, net, 2, true);
            x.judge(first + 1);
            x.judge(first + 2);
            x.accept(first + 2);
        }
        return x;
    }

    /** The nets of the set have lost what was settled, ruled, open and judged, the others nothing. */
    private static void lost(String what, GlitchCourt x, int set) {
        for (int net = 2; net <= 4; net++) {
            boolean lost = (set >> net & 1) == 1;
            Due.equal(what + ": settled times of net " + net, x.gate(net, 7), lost ? 0 : 1);
            Due.equal(what + ": ruled times of net " + net, x.gate(net, 8), lost ? 0 : 2);
            int first = 3 * (4 - net);
            Due.equal(what + ": the open one of net " + net, x.dispute(first, 6), lost ? 4 : 0);
            Due.equal(what + ": the judged one of net " + net, x.dispute(first + 1, 6), lost ? 4 : 1);
            Due.equal(what + ": the accepted one of net " + net, x.dispute(first + 2, 6), 3);
        }
    }

    private static void delayCones() {
        for (int which = 0; which < 3; which++) {
            int same = which == 2 ? 1 : 9;
            GlitchCourt x = disputed();
            x.setDelay(2, which, same);
            lost("34 the same delay " + which, x, 0);
            Due.equal("34 is recorded", x.undo(), 9);
            x.setDelay(4, which, 2);
            lost("34 delay of net 4", x, 1 << 4);
            x.undo();
            lost("34 undone", x, 0);
            x.setDelay(3, which, 2);
            lost("34 delay of net 3", x, 1 << 3);
            x.undo();
            x.setDelay(2, which, same - 1 == 0 ? 2 : same - 1);
            lost("34 delay of net 2", x, 1 << 2 | 1 << 3);
        }
    }

    /** What was ruled to 1 is shown as if it had never been ruled. */
    private static void ruledNoMore() {
        for (int drawn = 0; drawn < 4; drawn++) {
            GlitchCourt x = joined(0);
            if (drawn < 3) {
                x.setDelay(1, drawn, drawn == 2 ? 2 : 8);
            } else {
                x.toggle(0, 20);
            }
            int late = drawn == 2 ? 1 : 0;
            Due.equal("6 not ruled", x.gate(1, 8), 0);
            Due.equal("9 shown as cheap", x.wave(1, 0), Due.bits(3 + late, 5 + late, 8 + late, 9 + late));
        }
    }

    private static void toggles() {
        for (int horizon : new int[] {4, 60}) {
            GlitchCourt x = court("bench " + horizon + " 9 0 0;input 0;input 0;gate not 0 1 1 1;");
            for (int time : Due.outside(0, horizon)) {
                Due.illegal("35 time " + time, () -> x.toggle(1, time));
            }
            for (int input : Due.outside(0, 1)) {
                Due.noSuch("35 input " + input, () -> x.toggle(input, 0));
                Due.noSuch("35 the input is checked first, " + input, () -> x.toggle(input, -1));
            }
            Due.equal("35 none dropped", x.toggle(1, horizon), 0);
            Due.equal("35 at the horizon", x.wave(1, 0), 1L << horizon);
            Due.equal("35 in every class", x.wave(1, 2), 1L << horizon);
            x.toggle(1, 0);
            Due.equal("35 all of it", x.wave(1, 0), Due.bits(0, horizon - 1));
            x.toggle(1, 0);
            x.toggle(1, horizon);
            Due.equal("35 and back", x.wave(1, 0), 0L);
            x.toggle(1, 1);
            Due.equal("35 from 1 on", x.wave(1, 0), Due.bits(1, horizon));
            Due.equal("35 not the other input", x.wave(0, 0), 0L);
            Due.equal("35 recorded, each", x.undoCount(), 5);
        }
    }

    private static void toggleReaders() {
        GlitchCourt x = disputed();
        Due.equal("35 two of net 4", x.toggle(1, 20), 2);
        lost("35 input 1", x, 1 << 4);
        Due.equal("35 once only", x.toggle(1, 20), 0);
        Due.equal("35 two of net 2, two of net 3", x.toggle(0, 0), 4);
        lost("35 input 0, too", x, 1 << 4 | 1 << 3 | 1 << 2);
        GlitchCourt y = disputed();
        Due.equal("35 four", y.toggle(0, 20), 4);
        lost("35 input 0", y, 1 << 3 | 1 << 2);
        GlitchCourt z = court("bench 20 9 0 0;input 0 2 4;input 0;gate same 0 9 9 1;gate or 0 1 9 9 1;");
        z.open(0, 2, 0, true);
        z.open(0, 3, 0, true);
        Due.equal("35 by the second net", z.toggle(1, 20), 1);
        Due.equal("35 the gate without it", z.dispute(0, 6), 0);
        Due.equal("35 the gate with it", z.dispute(1, 6), 4);
        StringBuilder sixteen = new StringBuilder("bench 9 1 0 0;input 0;input 0;input 0;input 0;");
        for (int net = 4; net < 16; net++) {
            sixteen.append("gate same ").append(net % 4).append(" 1 1 1;");
        }
        GlitchCourt v = court(sixteen.toString());
        Due.equal("35 of 16 nets", v.toggle(3, 9), 0);
        Due.equal("25 of 16 nets", v.bestReplay(), NONE);
        GlitchCourt w = court(many());
        for (int i = 0; i < 20; i++) {
            w.open(0, 1 + i % 2, i / 2, true);
        }
        Due.equal("35 all twenty", w.toggle(0, 60), 20);
    }

    /** Appealed and accepted disputes are not dropped, and dropped ones not again. */
    private static void finishedStay() {
        GlitchCourt x = court(THREE);
        x.open(0, 1, 0, true);
        x.open(0, 1, 1, true);
        x.open(0, 1, 2, true);
        x.judge(0);
        x.judge(1);
        x.accept(0);
        x.appeal(1);
        Due.equal("35 only the open one", x.toggle(0, 20), 1);
        Due.equal("21 accepted", x.dispute(0, 6), 3);
        Due.equal("21 appealed", x.dispute(1, 6), 2);
        Due.equal("21 dropped", x.dispute(2, 6), 4);
        Due.equal("35 nothing more", x.toggle(0, 19), 0);
        x.setDelay(1, 0, 1);
        Due.equal("22 dropped", x.disputes(4), 1);
    }

    // Promises 36 and 37

    private static void deposits() {
        GlitchCourt x = new GlitchCourt();
        for (int purse : Due.outside(0, 2)) {
            Due.illegal("36 purse " + purse, () -> x.deposit(purse, 1));
        }
        for (int p = 0; p < 3; p++) {
            int purse = p;
            for (int amount : Due.outside(0, 99999)) {
                Due.illegal("36 amount " + amount, () -> x.deposit(purse, amount));
            }
            Due.equal("36 nothing", x.deposit(purse, 0), 0);
            for (int i = 1; i <= 10; i++) {
                Due.equal("36 the most", x.deposit(purse, 99999), 99999 * i);
            }
            Due.equal("36 over 1000000 by one", x.deposit(purse, 11), -3);
            Due.equal("36 far over it", x.deposit(purse, 99999), -3);
            Due.equal("36 nothing is put in", x.size(7 + purse), 999990);
            Due.equal("36 just 1000000", x.deposit(purse, 10), 1000000);
            Due.equal("36 one more", x.deposit(purse, 1), -3);
            Due.equal("36 nothing more", x.deposit(purse, 0), 1000000);
        }
        // A fee can bring the court over it; then no deposit goes in.
        GlitchCourt y = court("bench 20 9 0 1;input 0 2 4;gate same 0 9 9 1;purses 9 9 0;");
        for (int i = 1; i <= 10; i++) {
            y.deposit(2, 99999);
        }
        y.deposit(2, 10);
        y.open(0, 1, 0, true);
        Due.equal("30 a full purse takes a fee", y.judge(0), 0);
        Due.equal("5 one over", y.size(9), 1000001);
        Due.equal("36 it would be more than 1000000", y.deposit(2, 0), -3);
    }

    private static void limits() {
        GlitchCourt x = new GlitchCourt();
        for (int limit : Due.outside(1, 20)) {
            Due.illegal("37 limit " + limit, () -> x.setLimit(limit));
        }
        Due.equal("37 before", x.setLimit(20), 1);
        Due.equal("5 the greatest", x.size(3), 20);
        Due.equal("37 the greatest before", x.setLimit(1), 20);
        Due.equal("5 the least", x.size(3), 1);
        Due.equal("37 the same", x.setLimit(1), 1);
        Due.equal("37 recorded, each", x.undoCount(), 3);
        limitLeavesDisputes();
    }

    /** A dispute goes on though its window is longer than the limit by now. */
    private static void limitLeavesDisputes() {
        GlitchCourt x = court(THREE);
        x.open(0, 1, 0, true);
        x.open(1, 1, 1, true);
        x.judge(1);
        x.setLimit(1);
        Due.equal("6 no pulse", x.gate(1, 9), 0);
        Due.equal("22 still open", x.disputes(0), 1);
        Due.equal("22 still judged", x.disputes(1), 1);
        Due.equal("30 judged by its window", x.judge(0), 0);
        Due.equal("32 accepted with its window", x.accept(0), 3);
        Due.equal("31 appealed with its window", x.appeal(1), 1);
        Due.equal("6 settled", x.gate(1, 7), 2);
    }
}
