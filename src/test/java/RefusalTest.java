/** Each call that is refused, by an exception or a code, and that it has changed nothing. */
public final class RefusalTest {
    private static final int NONE = -1;
    private static final int HIDDEN = -1000000000;
    private static final Twins.Maker FED = Rich::fed;

    public static void main(String[] args) {
        richAsTold();
        newObject();
        numbersOfNets();
        kindsAndTimes();
        otherNumbers();
        windows();
        buffer();
        opening();
        judging();
        appealing();
        accepting();
        replaying();
        changing();
        depositing();
        undoing();
        texts();
        replaced();
        Due.close("RefusalTest");
    }

    private static void richAsTold() {
        GlitchCourt x = Rich.court();
        int[] states = {0, 1, 3, 2, 4};
        int[] sizes = {2, 2, 20, 5, 1, 2, 5, 1, 7, 12};
        for (int i = 0; i < 5; i++) {
            Due.equal("21 state of dispute " + i, x.dispute(i, 6), states[i]);
        }
        for (int what = 0; what < 10; what++) {
            Due.equal("5 size " + what, x.size(what), sizes[what]);
        }
        Due.equal("40 undoCount", x.undoCount(), 3);
        Due.equal("4 errorPosition", x.errorPosition(), 9);
        Due.equal("29 20 disputes", Rich.twenty().size(6), 20);
    }

    /** It is as by the text, and nothing has been asked of it. */
    private static void newObject() {
        GlitchCourt x = new GlitchCourt();
        Due.equal("1 errorPosition", x.errorPosition(), NONE);
        Due.equal("1 formattedByte", x.formattedByte(0), NONE);
        Due.equal("1 feed of the empty buffer", x.feed(0, 0, 0, 0, 0), 20);
        Twins.same("1 a new object", Picture.of(new GlitchCourt()), Picture.of(Due.court("bench 4 1 1 1; input 0;")));
        int[] sizes = {1, 0, 4, 1, 1, 1, 0, 0, 0, 0};
        for (int what = 0; what < 10; what++) {
            Due.equal("1 size " + what, x.size(what), sizes[what]);
        }
    }

    private static void numbersOfNets() {
        for (int net : Due.outside(0, 3)) {
            Twins.noSuch("7 value of net " + net, FED, x -> x.value(net, 0, 0));
            Twins.noSuch("8 stateAt of net " + net, FED, x -> x.stateAt(net, 0));
            Twins.noSuch("9 wave of net " + net, FED, x -> x.wave(net, 0));
            Twins.noSuch("10 changes of net " + net, FED, x -> x.changes(net, 0));
            Twins.noSuch("11 quietFrom of net " + net, FED, x -> x.quietFrom(net, 0));
            Twins.noSuch("12 shortest of net " + net, FED, x -> x.shortest(net, 0));
            Twins.noSuch("13 wrong of net " + net, FED, x -> x.wrong(net));
            Twins.noSuch("14 firstWrong of net " + net, FED, x -> x.firstWrong(net));
            Twins.noSuch("18 touches of net " + net, FED, x -> x.touches(net));
            Twins.noSuch("19 longest of net " + net, FED, x -> x.longest(net));
            Twins.noSuch("38 format of net " + net, FED, x -> x.format(net, 0));
        }
        for (int net : Due.outside(2, 3)) {
            Twins.noSuch("6 gate " + net, FED, x -> x.gate(net, 0));
            Twins.noSuch("17 dependsOn of " + net, FED, x -> x.dependsOn(net));
            Twins.noSuch("20 pulse of " + net, FED, x -> x.pulse(net, 0, 0));
        }
    }

    private static void kindsAndTimes() {
        for (int kind : Due.outside(0, 2)) {
            Twins.noSuch("7 value of kind " + kind, FED, x -> x.value(2, 0, kind));
            Twins.noSuch("9 wave of kind " + kind, FED, x -> x.wave(2, kind));
            Twins.noSuch("10 changes of kind " + kind, FED, x -> x.changes(2, kind));
            Twins.noSuch("11 quietFrom of kind " + kind, FED, x -> x.quietFrom(2, kind));
            Twins.noSuch("12 shortest of kind " + kind, FED, x -> x.shortest(2, kind));
            Twins.noSuch("38 format of kind " + kind, FED, x -> x.format(2, kind));
        }
        for (int time : Due.outside(0, 20)) {
            Twins.noSuch("7 value at " + time, FED, x -> x.value(2, time, 0));
            Twins.noSuch("8 stateAt " + time, FED, x -> x.stateAt(2, time));
        }
    }

    private static void otherNumbers() {
        for (int what : Due.outside(0, 9)) {
            Twins.noSuch("5 size " + what, FED, x -> x.size(what));
            Twins.noSuch("6 gate 2 " + what, FED, x -> x.gate(2, what));
            Twins.noSuch("21 dispute 0 " + what, FED, x -> x.dispute(0, what));
        }
        for (int what : Due.outside(0, 4)) {
            Twins.noSuch("20 pulse 0 " + what, FED, x -> x.pulse(2, 0, what));
            Twins.illegal("22 disputes " + what, FED, x -> x.disputes(what));
            Twins.noSuch("21 dispute " + what, FED, x -> x.dispute(what, 0));
        }
        for (int index : Due.outside(0, 0)) {
            Twins.noSuch("20 pulse " + index, FED, x -> x.pulse(2, index, 0));
        }
        for (int index : Due.outside(0, 20)) {
            Twins.refused("39 formattedByte " + index, FED, x -> x.formattedByte(index), NONE);
        }
    }

    private static void windows() {
        int[][] illegal = {{-1, 0}, {0, 21}, {1, 0}, {20, 19}, {21, 21}, {Integer.MIN_VALUE, Integer.MAX_VALUE}};
        for (int[] w : illegal) {
            String times = " from " + w[0] + " to " + w[1];
            Twins.illegal("23 cost" + times, FED, x -> x.cost(2, w[0], w[1]));
            Twins.illegal("24 gain" + times, FED, x -> x.gain(2, w[0], w[1]));
            Twins.illegal("33 replay" + times, FED, x -> x.replay(2, w[0], w[1]));
            for (int net : Due.outside(2, 3)) {
                Twins.noSuch("23 cost of " + net + times, FED, x -> x.cost(net, w[0], w[1]));
                Twins.noSuch("24 gain of " + net + times, FED, x -> x.gain(net, w[0], w[1]));
                Twins.noSuch("33 replay of " + net + times, FED, x -> x.replay(net, w[0], w[1]));
            }
        }
    }

    private static void buffer() {
        Twins.refused("2 feed of the full buffer", Rich::full, x -> x.feed(1, 2, 3, 4, 5), NONE);
        for (int length : Due.outside(0, 20)) {
            Twins.illegal("3 load of 20 bytes, " + length, FED, x -> x.load(length));
            Twins.illegal("44 query of 20 bytes, " + length, FED, x -> x.query(length));
        }
        for (int length : Due.outside(0, 600)) {
            Twins.illegal("3 load of 600 bytes, " + length, Rich::full, x -> x.load(length));
        }
        for (int length : Due.outside(0, 200)) {
            Twins.illegal("44 query of 600 bytes, " + length, Rich::full, x -> x.query(length));
        }
        for (int length : Due.outside(0, 0)) {
            Twins.illegal("3 load of the empty buffer, " + length, Rich::court, x -> x.load(length));
            Twins.illegal("44 query of the empty buffer, " + length, Rich::court, x -> x.query(length));
        }
    }

    private static void opening() {
        for (int net : Due.outside(2, 3)) {
            Twins.noSuch("29 net " + net, FED, x -> x.open(0, net, 0, true));
            Twins.noSuch("29 net before party " + net, FED, x -> x.open(2, net, 0, true));
        }
        for (int index : Due.outside(0, 0)) {
            Twins.noSuch("29 index " + index, FED, x -> x.open(0, 2, index, true));
            Twins.noSuch("29 index before party " + index, FED, x -> x.open(-1, 2, index, true));
        }
        for (int party : Due.outside(0, 1)) {
            Twins.illegal("29 party " + party, FED, x -> x.open(party, 3, 0, true));
            Twins.illegal("29 party before -2 " + party, FED, x -> x.open(party, 2, 0, true));
            Twins.illegal("29 party before -3 " + party, Rich::twenty, x -> x.open(party, 1, 20, true));
        }
        Twins.refused("29 a window in common", FED, x -> x.open(0, 2, 0, true), -2);
        Twins.refused("29 20 disputes", Rich::twenty, x -> x.open(0, 1, 20, true), -3);
        Twins.refused("29 both", Rich::twenty, x -> x.open(1, 1, 3, true), -2);
    }

    private static void noDispute(String what, Twins.Maker maker, int count) {
        for (int number : Due.outside(0, count - 1)) {
            Twins.noSuch("30 judge " + number + what, maker, x -> x.judge(number));
            Twins.noSuch("31 appeal " + number + what, maker, x -> x.appeal(number));
            Twins.noSuch("32 accept " + number + what, maker, x -> x.accept(number));
            Twins.noSuch("21 dispute " + number + what, maker, x -> x.dispute(number, 0));
        }
    }

    private static void judging() {
        noDispute(" of 5", FED, 5);
        noDispute(" of 20", Rich::twenty, 20);
        noDispute(" of 0", GlitchCourt::new, 0);
        Twins.noSuch("30 judge 0 of 0", GlitchCourt::new, x -> x.judge(0));
        for (int number = 1; number < 5; number++) {
            int d = number;
            Twins.refused("30 not open, dispute " + d, Rich::paying, x -> x.judge(d), -2);
        }
        Twins.refused("30 less than the fee", FED, x -> x.judge(0), -3);
    }

    private static void appealing() {
        for (int number : new int[] {0, 2, 3, 4}) {
            Twins.refused("31 not judged, dispute " + number, Rich::paying, x -> x.appeal(number), -2);
            Twins.refused("31 not judged, nor paying, dispute " + number, FED, x -> x.appeal(number), -2);
        }
        Twins.refused("31 less than the stake", FED, x -> x.appeal(1), -3);
    }

    private static void accepting() {
        for (int number : new int[] {0, 2, 3, 4}) {
            Twins.refused("32 not judged, dispute " + number, FED, x -> x.accept(number), -2);
        }
    }

    private static void replaying() {
        Twins.refused("33 a cost of 13", FED, x -> x.replay(2, 0, 12), -3);
        Twins.refused("33 of what is settled, too", FED, x -> x.replay(3, 8, 20), -3);
        Due.equal("33 a cost of 12", Rich.fed().replay(2, 1, 12), 10);
    }

    private static void changing() {
        for (int net : Due.outside(2, 3)) {
            Twins.noSuch("34 net " + net, FED, x -> x.setDelay(net, 0, 1));
            Twins.noSuch("34 net before which and delay " + net, FED, x -> x.setDelay(net, 3, 0));
        }
        for (int which : Due.outside(0, 2)) {
            Twins.illegal("34 which " + which, FED, x -> x.setDelay(2, which, 1));
        }
        for (int which = 0; which < 3; which++) {
            int w = which;
            for (int delay : Due.outside(1, 9)) {
                Twins.illegal("34 delay " + w + " to " + delay, FED, x -> x.setDelay(2, w, delay));
            }
        }
        for (int input : Due.outside(0, 1)) {
            Twins.noSuch("35 input " + input, FED, x -> x.toggle(input, 0));
            Twins.noSuch("35 input before time " + input, FED, x -> x.toggle(input, 21));
        }
        for (int time : Due.outside(0, 20)) {
            Twins.illegal("35 time " + time, FED, x -> x.toggle(0, time));
        }
        for (int limit : Due.outside(1, 20)) {
            Twins.illegal("37 limit " + limit, FED, x -> x.setLimit(limit));
        }
    }

    /** 1000000 in each purse. */
    private static GlitchCourt wealthy() {
        GlitchCourt x = new GlitchCourt();
        for (int i = 0; i < 30; i++) {
            x.deposit(i % 3, 99999);
        }
        for (int purse = 0; purse < 3; purse++) {
            x.deposit(purse, 10);
        }
        return x;
    }

    private static void depositing() {
        for (int purse : Due.outside(0, 2)) {
            Twins.illegal("36 purse " + purse, FED, x -> x.deposit(purse, 1));
        }
        for (int purse = 0; purse < 3; purse++) {
            int p = purse;
            for (int amount : Due.outside(0, 99999)) {
                Twins.illegal("36 amount " + amount + " for " + p, FED, x -> x.deposit(p, amount));
            }
            Twins.refused("36 one more than 1000000 for " + p, RefusalTest::wealthy, x -> x.deposit(p, 1), -3);
            Twins.refused("36 far more for " + p, RefusalTest::wealthy, x -> x.deposit(p, 99999), -3);
        }
    }

    private static void undoing() {
        Twins.refused("41 nothing to undo", GlitchCourt::new, GlitchCourt::undo, NONE);
        Twins.refused("41 nothing left", RefusalTest::undone, GlitchCourt::undo, NONE);
        Twins.refused("43 no snapshot", RefusalTest::noSnapshot, GlitchCourt::restoreSnapshot, false);
        Twins.refused("43 no snapshot of a new object", GlitchCourt::new, GlitchCourt::restoreSnapshot, false);
    }

    private static GlitchCourt undone() {
        GlitchCourt x = Rich.fed();
        x.undo();
        x.undo();
        x.undo();
        return x;
    }

    private static GlitchCourt noSnapshot() {
        GlitchCourt x = Due.court(Rich.TEXT);
        x.open(0, 2, 0, true);
        x.judge(0);
        x.setLimit(7);
        return x;
    }

    /** A text with an error, and any query, change the buffer and the error position alone. */
    private static void texts() {
        String[] broken = {"", "x", "bench 60 20 9 99;input 1 1 2 3;input 1;input 1;gate not 0 9 9 9;purses 1 2 3;;",
            "bench 4 1 0 0;input 0;input 1 1;gate same 0 1 1 1;gate same 0 1 1 1;gate same 0 1 1 10;",
            "bench 20 4 1 2;input 1 5 5;", "bench 61", "bench 9 9 9 9;" + "input 1;".repeat(5)};
        int[] codes = {1, 1, 1, 2, 4, 2, 3};
        for (int i = 0; i < broken.length; i++) {
            String text = broken[i];
            onlyTheText("3 load of " + text, x -> Due.load(x, text), -10 - codes[i]);
        }
        onlyTheText("44 a good query", x -> Due.query(x, "many not (settled=0 or ruled>0) or pulses=pulses"), 4);
        onlyTheText("44 no such net", x -> Due.query(x, "first net>3"), NONE);
        onlyTheText("44 an error", x -> Due.query(x, "many not (settled=0 or ruled>0"), HIDDEN - 1);
        onlyTheText("44 another error", x -> Due.query(x, "many net=10000"), HIDDEN - 2);
        onlyTheText("44 a third error", x -> Due.query(x, "many (((((((net=1)))))))"), HIDDEN - 3);
    }

    private static void onlyTheText(String what, java.util.function.Function<GlitchCourt, Object> call, int due) {
        GlitchCourt x = Rich.court();
        Due.equal(what, call.apply(x), due);
        Due.equal(what + " has an error position", x.errorPosition() >= 0, due < NONE);
        Twins.same(what + " changes no more", Picture.butForTheErrorPosition(x),
                Picture.butForTheErrorPosition(Rich.court()));
    }

    /** A good text replaces everything: what it makes is the same whatever there was before. */
    private static void replaced() {
        String[] texts = {"bench 4 1 0 0;input 0;", Rich.TEXT,
            "bench 60 20 9 99;" + "input 1 5 60;".repeat(4) + "gate nor 0 3 9 9 9;gate xor 4 1 1 1 1;",
            "bench 20 9 0 0;input 1;gate not 0 1 1 1;gate and 0 1 2 2 2;gate same 2 3 3 3;purses 5 6 7;"};
        for (String last : texts) {
            for (String before : texts) {
                GlitchCourt x = Due.court(Rich.TEXT);
                x.open(0, 2, 0, true);
                x.open(1, 3, 0, true);
                x.judge(0);
                x.accept(0);
                x.replay(3, 4, 4);
                x.saveSnapshot();
                Due.load(x, before);
                x.setLimit(3);
                x.deposit(1, 7);
                Due.answer(() -> x.replay(x.size(0), 0, 0));
                x.saveSnapshot();
                Due.load(x, last);
                Twins.same("3 " + last + " in place of " + before, Picture.of(x), Picture.of(Due.court(last)));
            }
        }
    }
}
