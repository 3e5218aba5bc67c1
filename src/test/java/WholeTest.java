import java.util.concurrent.Callable;

/** What the document says of the whole ('What it is', section 7) and no promise says by itself. */
public final class WholeTest {
    private static final int NONE = -1;
    /** Net 2 has a pulse of 1, 4 to 6, that looks real and is dear swallowed, as net 1 swallows its pulse 3 to 5. */
    private static final String LOST = "bench 20 4 2 5;input 0 2 5;gate same 0 9 1 1;gate same 1 1 1 1;purses ";

    public static void main(String[] args) {
        cheapTillSomebodyPays();
        cheapWhateverTheGates();
        fromPurseToPurse();
        paidWhereItIsSaid();
        severalObjects();
        notUndone();
        notRestored();
        Due.close("WholeTest");
    }

    /** Whether each net is shown as it is cheap. */
    private static boolean isCheap(GlitchCourt x) {
        boolean same = true;
        for (int net = 0; net < x.size(0) + x.size(1); net++) {
            same &= x.wave(net, 0) == x.wave(net, 1);
        }
        return same;
    }

    private static void stillCheap(String what, GlitchCourt x, Callable<Integer> call, int due) {
        Due.equal(what, Due.answer(call), due);
        Due.equal(what + " shows the cheap waves", isCheap(x), true);
    }

    private static void cheapNoMore(String what, GlitchCourt x, Callable<Integer> call, int due) {
        Due.equal(what, Due.answer(call), due);
        Due.equal(what + " shows other waves", isCheap(x), false);
        x.undo();
        Due.equal(what + " undone shows the cheap waves", isCheap(x), true);
    }

    /** Only what is ruled or settled is shown otherwise than cheap, and only as long as it is. */
    private static void cheapTillSomebodyPays() {
        GlitchCourt x = Due.court(LOST + "50 60 99;");
        Due.equal("a new bench shows the cheap waves", isCheap(x), true);
        stillCheap("29 open", x, () -> x.open(0, 1, 0, true), 0);
        stillCheap("29 open of net 2", x, () -> x.open(0, 2, 0, false), 1);
        stillCheap("30 judge", x, () -> x.judge(0), 0);
        stillCheap("30 judge of net 2", x, () -> x.judge(1), 1);
        stillCheap("36 deposit", x, () -> x.deposit(2, 5), 114);
        stillCheap("37 setLimit", x, () -> x.setLimit(5), 4);
        stillCheap("44 query", x, () -> Due.query(x, "many wrong>0"), 2);
        stillCheap("24 gain", x, () -> x.gain(1, 3, 5), 6);
        stillCheap("25 bestReplay", x, x::bestReplay, 100);
        cheapNoMore("32 accept", x, () -> x.accept(0), 3);
        cheapNoMore("31 appeal", x, () -> x.appeal(0), 0);
        cheapNoMore("31 appeal of net 2", x, () -> x.appeal(1), 0);
        cheapNoMore("33 replay", x, () -> x.replay(1, 3, 3), 1);
        stillCheap("33 replay of what is right", x, () -> x.replay(1, 2, 2), 1);
        x.replay(1, 3, 3);
        Due.equal("33 it shows what is settled", x.wave(1, 0), Due.bits(4, 5));
        stillCheap("34 setDelay", x, () -> x.setDelay(1, 0, 8), 9);
        x.replay(1, 3, 3);
        stillCheap("35 toggle", x, () -> x.toggle(0, 20), 0);
    }

    private static void cheapWhateverTheGates() {
        String inputs = "bench 60 1 1 1;input 0 3 4 9 20 28;input 1 2 7 8 9 30 55;";
        String[] kinds = {"same 0", "or 1 2", "xor 2 3", "nand 4 0", "nor 5 1", "not 6", "and 4 7", "same 8"};
        StringBuilder text = new StringBuilder(inputs);
        for (int i = 0; i < kinds.length; i++) {
            text.append("gate ").append(kinds[i]).append(" 4 3 ").append(1 + i).append(';');
        }
        Due.equal("a bench of all kinds shows the cheap waves", isCheap(Due.court(text.toString())), true);
    }

    private static int allPurses(GlitchCourt x) {
        return x.size(7) + x.size(8) + x.size(9);
    }

    /** Fees and stakes go from purse to purse: nothing comes and nothing goes. */
    private static void fromPurseToPurse() {
        for (String purses : new String[] {"17 0 0", "17 7 0", "99999 99999 99999", "17 12 3"}) {
            GlitchCourt x = Due.court(LOST + purses + ";");
            int all = allPurses(x);
            x.open(0, 2, 0, false);
            Due.equal("29 opening costs nothing of " + purses, x.size(9), all - x.size(7) - x.size(8));
            Due.equal("30 judge", x.judge(0), 1);
            Due.equal("30 the fee of " + purses, allPurses(x), all);
            Due.equal("31 appeal", x.appeal(0), 0);
            Due.equal("31 the stake of " + purses, allPurses(x), all);
            Due.equal("31 no purse below 0", Math.min(x.size(7), Math.min(x.size(8), x.size(9))) >= 0, true);
            x.undo();
            Due.equal("41 undone", allPurses(x), all);
            int court = x.size(9);
            Due.equal("32 accept", x.accept(0), 3);
            Due.equal("32 accepting costs nothing of " + purses, x.size(9), court);
            Due.equal("32 nor anybody else", allPurses(x), all);
        }
    }

    /** Only judge, appeal, replay and deposit change a purse. */
    private static void paidWhereItIsSaid() {
        GlitchCourt x = Due.court(LOST + "50 60 99;");
        x.open(1, 1, 0, true);
        x.setLimit(9);
        x.toggle(0, 20);
        x.setDelay(1, 2, 2);
        x.setDelay(2, 0, 9);
        int[] due = {50, 60, 99};
        for (int purse = 0; purse < 3; purse++) {
            Due.equal("5 purse " + purse + " as before", x.size(7 + purse), due[purse]);
        }
        x.replay(2, 3, 4);
        Due.equal("33 the court loses the cost", x.size(9), 91);
        Due.equal("33 nobody gets it", allPurses(x), 201);
        x.deposit(1, 9);
        Due.equal("36 nobody loses it", allPurses(x), 210);
    }

    /** What is done with one object leaves another one alone. */
    private static void severalObjects() {
        GlitchCourt x = Rich.fed();
        GlitchCourt y = new GlitchCourt();
        Due.equal("2 the other buffer", y.feed(0, 0, 0, 0, 0), 20);
        y.load(0);
        Due.equal("4 the other error", y.errorPosition(), 0);
        Due.load(y, LOST.replace("bench 20", "bench 30") + "50 60 7;");
        y.format(1, 2);
        y.open(0, 1, 0, true);
        y.judge(0);
        y.accept(0);
        y.saveSnapshot();
        y.toggle(0, 3);
        y.setDelay(2, 1, 9);
        Due.query(y, "many ((((((net=1");
        y.undo();
        Twins.same("an object beside another one", Picture.of(x), Picture.of(Rich.fed()));
        GlitchCourt z = new GlitchCourt();
        Twins.same("1 an object made behind others", Picture.of(z), Picture.of(Due.court("bench 4 1 1 1;input 0;")));
    }

    /** Two operations and what is no operation behind each: the buffer, the text and the error position. */
    private static GlitchCourt withMore(boolean snapshot) {
        GlitchCourt x = Due.court(LOST + "50 60 7;");
        x.format(0, 0);
        x.replay(1, 3, 3);
        if (snapshot) {
            x.saveSnapshot();
        }
        x.setLimit(1);
        Due.query(x, "many net=");
        x.format(1, 0);
        Due.feed(x, "many limit=         many net=1          ");
        return x;
    }

    private static void asFed(String what, GlitchCourt x) {
        Due.equal(what + " leaves the error position", x.errorPosition(), 9);
        Due.equal(what + " leaves the text", x.formattedByte(3), (int) 'L');
        Due.equal(what + " leaves its end", x.formattedByte(21), NONE);
        Due.equal(what + " leaves the buffer", x.feed(0, 0, 0, 0, 0), 60);
        Due.equal(what + " leaves the bytes", Due.answer(() -> x.query(30)), GlitchCourt.HIDDEN - 1);
        Due.equal(what + " leaves each byte", x.errorPosition(), 5);
    }

    /** Undoing restores what the operation changed, and nothing else. */
    private static void notUndone() {
        GlitchCourt x = withMore(false);
        Due.equal("41 the limit", x.undo(), 1);
        Due.equal("41 is back", x.size(3), 4);
        Due.equal("41 the replay", x.undo(), 0);
        Due.equal("41 is undone", x.gate(1, 7), 0);
        asFed("41 undo", x);
    }

    private static void notRestored() {
        GlitchCourt x = withMore(true);
        Due.equal("43 restored", x.restoreSnapshot(), true);
        Due.equal("43 the limit is back", x.size(3), 4);
        Due.equal("43 what was settled stays", x.gate(1, 7), 1);
        asFed("43 restoreSnapshot", x);
        GlitchCourt z = withMore(false);
        z.saveSnapshot();
        asFed("42 saveSnapshot", z);
        // Nor are they kept by saving.
        GlitchCourt y = withMore(false);
        y.saveSnapshot();
        y.load(0);
        y.format(0, 0);
        Due.equal("43 restored", y.restoreSnapshot(), true);
        Due.equal("43 the buffer stays empty", y.feed(0, 0, 0, 0, 0), 20);
        Due.equal("43 the error position stays", y.errorPosition(), 0);
        Due.equal("43 the text stays", y.formattedByte(3), (int) '1');
    }
}
