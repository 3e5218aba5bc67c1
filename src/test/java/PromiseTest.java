/** A test for each promise of the document: ordinary inputs, the edges that it names, wrong inputs. */
public final class PromiseTest {
    private static final int NONE = -1;
    private static final int HIDDEN = -1000000000;
    private static final int LOW = Integer.MIN_VALUE;
    private static final int HIGH = Integer.MAX_VALUE;
    private static final String NO_SUCH = "throws.NoSuchElementException";
    private static final String ILLEGAL = "throws.IllegalArgumentException";

    /**
     * Net 0 is 1 at 2, 3 and 10 to 20. Net 1 (cone 1): cheap 1 at 3, 4 and 11 to 20, dear 1 at 13 to 20; a pulse 3 to 4.
     * Net 2 (cone 2): cheap 1 at 0 to 4 and 7 to 12, dear 1 at 0 to 13; a pulse 5 to 6 (of value 0).
     */
    private static final String LAMP =
            "bench 20 4 2 5;input 0 2 4 10;gate same 0 3 2 1;gate not 1 1 1 2;purses 50 60 7;";
    /** A pulse 3 to 5 of net 1 and one 4 to 6 of net 2 (cone 2, stake 12) that looks real; both are dear 0 throughout. */
    private static final String LOST =
            "bench 20 4 2 5;input 0 2 5;gate same 0 9 1 1;gate same 1 1 1 1;purses 50 60 7;";
    /** Net 1 has a pulse 3 to 4 of 1 and a pulse 5 to 6 of 0, which is short, but the dear wave is 0 till 15. */
    private static final String SLOW =
            "bench 20 4 1 2;input 0 2 4 6;gate same 0 9 3 1;gate nand 0 1 1 1 1;purses 9 9 99;";

    private static GlitchCourt lamp() {
        return Due.court(LAMP);
    }

    public static void main(String[] args) {
        newObject();
        feed();
        load();
        loadOverUsedRows();
        loadErrors();
        errorPosition();
        size();
        gate();
        gateKinds();
        dearWaves();
        value();
        stateAt();
        wave();
        changes();
        quietFrom();
        shortest();
        wrong();
        firstWrong();
        allWrong();
        worst();
        dependsOn();
        touches();
        longest();
        pulse();
        dispute();
        disputes();
        cost();
        gain();
        bestReplay();
        misjudged();
        excess();
        settledShare();
        open();
        judge();
        appeal();
        accept();
        replay();
        setDelay();
        toggle();
        deposit();
        setLimit();
        format();
        formattedByte();
        undoCount();
        undo();
        snapshot();
        query();
        queryErrors();
        Due.close("PromiseTest");
    }

    private static void newObject() {
        GlitchCourt x = new GlitchCourt();
        int[] sizes = {1, 0, 4, 1, 1, 1, 0, 0, 0, 0};
        for (int what = 0; what < sizes.length; what++) {
            Due.equal("1 size " + what, x.size(what), sizes[what]);
        }
        Due.equal("1 wave", x.wave(0, 0), 0L);
        Due.equal("1 gate", Due.answer(() -> x.gate(1, 0)), NO_SUCH);
        Due.equal("1 undoCount", x.undoCount(), 0);
        Due.equal("1 errorPosition", x.errorPosition(), NONE);
        Due.equal("1 restoreSnapshot", x.restoreSnapshot(), false);
        Due.equal("1 formattedByte", x.formattedByte(0), NONE);
        Due.equal("1 buffer", Due.answer(() -> x.load(1)), ILLEGAL);
        Due.equal("1 allWrong", x.allWrong(), 0);
        Due.equal("1 worst", x.worst(), 0);
        Due.equal("1 bestReplay", x.bestReplay(), NONE);
        Due.equal("1 NONE", GlitchCourt.NONE, -1);
        Due.equal("1 HIDDEN", GlitchCourt.HIDDEN, -1000000000);
    }

    private static void feed() {
        GlitchCourt x = new GlitchCourt();
        for (int i = 1; i <= 30; i++) {
            Due.equal("2 feed", x.feed(0x62656e63, 0x68203420, 0x31203120, 0x313b696e, 0x70757430), 20 * i);
        }
        Due.equal("2 full", x.feed(1, 2, 3, 4, 5), NONE);
        Due.equal("2 still full", x.feed(1, 2, 3, 4, 5), NONE);
        Due.equal("2 too much", Due.answer(() -> x.load(601)), ILLEGAL);
        Due.equal("2 all of it", x.load(600), -11);
        for (int i = 0; i < 30; i++) {
            x.feed(0x61616161, 0x61616161, 0x61616161, 0x61616161, 0x61616161);
        }
        Due.equal("2 one word of 600 letters", x.load(600), -11);
        Due.feed(x, "bench 4 1 1 1;input 0" + " ".repeat(570) + "000000009");
        Due.equal("2 a number up to the end", x.load(600), -12);
        Due.equal("2 empty again", x.feed(1, 2, 3, 4, 5), 20);
        // The bytes arrive in their order, and those above 127 are no letters.
        GlitchCourt y = new GlitchCourt();
        y.feed(0x62656e63, 0x68ff2020, 0x20202020, 0x20202020, 0x20202020);
        Due.equal("2 byte 255", y.load(20), -11);
        Due.equal("2 its position", y.errorPosition(), 5);
    }

    private static void load() {
        GlitchCourt x = lamp();
        x.open(0, 1, 0, true);
        x.judge(0);
        x.replay(1, 0, 1);
        x.saveSnapshot();
        Due.feed(x, LAMP + "gate");
        Due.equal("3 negative", Due.answer(() -> x.load(-1)), ILLEGAL);
        Due.equal("3 lowest", Due.answer(() -> x.load(LOW)), ILLEGAL);
        Due.equal("3 more than fed", Due.answer(() -> x.load(101)), ILLEGAL);
        Due.equal("3 highest", Due.answer(() -> x.load(HIGH)), ILLEGAL);
        Due.equal("3 nothing changed", x.undoCount(), 3);
        Due.equal("3 first bytes only", x.load(LAMP.length()), 3);
        Due.equal("3 buffer is empty", Due.answer(() -> x.load(1)), ILLEGAL);
        Due.equal("3 no disputes", x.size(6), 0);
        Due.equal("3 nothing settled", x.gate(1, 7), 0);
        Due.equal("3 purses", x.size(9), 7);
        Due.equal("3 no history", x.undo(), NONE);
        Due.equal("3 no snapshot", x.restoreSnapshot(), false);
        // An error changes the buffer and the error position alone.
        x.open(0, 1, 0, true);
        x.saveSnapshot();
        Due.equal("3 error", Due.load(x, "bench 60 20 9 99;input 1;gate"), -11);
        Due.equal("3 horizon stays", x.size(2), 20);
        Due.equal("3 waves stay", x.wave(0, 0), 2096140L);
        Due.equal("3 disputes stay", x.size(6), 1);
        Due.equal("3 history stays", x.undoCount(), 1);
        Due.equal("3 snapshot stays", x.restoreSnapshot(), true);
        Due.equal("3 buffer is empty after the error", Due.answer(() -> x.load(1)), ILLEGAL);
        loadBounds();
    }

    private static void loadBounds() {
        StringBuilder great = new StringBuilder("bench 60 20 9 99;");
        for (int i = 0; i < 4; i++) {
            great.append("input 1;");
        }
        for (int i = 0; i < 12; i++) {
            great.append("gate nor ").append(i).append(" 3 9 9 9;");
        }
        GlitchCourt x = Due.court(great + "purses 99999 99999 99999;");
        Due.equal("3 nets", x.size(0) + x.size(1), 16);
        Due.equal("3 horizon", x.size(2), 60);
        Due.equal("3 limit", x.size(3), 20);
        Due.equal("3 rate", x.size(4), 9);
        Due.equal("3 fee", x.size(5), 99);
        Due.equal("3 purse", x.size(8), 99999);
        Due.equal("3 input of ones", x.wave(3, 0), (1L << 61) - 1);
        // A row that held a gate before holds an input now, and the other way round.
        fullBench(x);
        Due.equal("3 small again", Due.load(x, "bench 4 1 0 0;input 0;gate not 0 1 1 1;"), 2);
        Due.equal("3 cone", x.gate(1, 6), 1);
        Due.equal("3 great again", Due.load(x, great.toString()), 16);
        Due.equal("3 set", x.dependsOn(4), 1 << 4);
        Due.equal("3 no purses", x.size(7), 0);
        Due.equal("3 no blanks", Due.load(x, "bench4\n1 0 0;input0 1 2;gate not0 1 0001 1;purses1 2 3;\n"), 2);
        Due.equal("3 delay", x.gate(1, 4), 1);
        Due.equal("3 last purse", x.size(9), 3);
    }

    /** With 16 nets there is no row behind the last net. */
    private static void fullBench(GlitchCourt x) {
        Due.equal("18 of 16 nets", x.touches(15), 1 << 15);
        Due.equal("18 input of 16 nets", x.touches(3), 0xfff0);
        Due.equal("15 of 16 nets", x.allWrong() >= 0, true);
        Due.equal("16 of 16 nets", x.worst() < 16, true);
        Due.equal("25 of 16 nets", x.bestReplay() < 1600, true);
        Due.equal("27 of 16 nets", x.excess() >= 0, true);
        Due.equal("28 of 16 nets", x.settledShare(), 0.0f);
        Due.equal("44 of 16 nets", Due.query(x, "many net<16"), 16);
        Due.equal("35 of 16 nets", x.toggle(3, 60), 0);
    }

    /** The text is read into rows that a former text has used: nothing of that may stay. */
    private static void loadOverUsedRows() {
        GlitchCourt x = Due.court(SLOW);
        x.replay(1, 0, 2);
        x.open(0, 1, 1, true);
        x.judge(0);
        x.accept(0);
        Due.load(x, "bench 4 1 1 1;input 0;");
        Due.equal("3 as before", Due.load(x, SLOW), 3);
        Due.equal("3 nothing settled any more", x.gate(1, 7), 0);
        Due.equal("3 nothing ruled any more", x.gate(1, 8), 0);
        Due.equal("3 shown as at first", x.wave(1, 0), Due.bits(3, 4, 7, 20));
        Due.equal("3 no disputes any more", x.size(6), 0);
        // Nets 1 to 3 were gates and are inputs now.
        Due.load(x, "bench 9 1 1 1;input 0 2;gate same 0 1 1 1;gate same 1 9 9 9;gate same 2 1 1 1;");
        x.replay(1, 0, 0);
        Due.load(x, "bench 4 1 1 1;input 0;");
        Due.equal("3 now inputs", Due.load(x, "bench 9 1 1 1;input 0;input 0;input 0;input 0;gate nor 1 3 2 2 1;"), 5);
        Due.equal("3 cone of one", x.gate(4, 6), 1);
        Due.equal("3 itself alone", x.dependsOn(4), 1 << 4);
        Due.equal("3 path", x.longest(4), 2);
        Due.equal("3 path of an input", x.longest(2), 0);
        Due.equal("3 input is not settled", x.stateAt(1, 0), 0);
        Due.equal("3 touched by input 2", x.touches(2), 0);
    }

    private static void loadErrors() {
        String head = "bench 9 1 1 1;";
        String one = head + "input 0;";
        error("", 1, 0);
        error("  \n", 1, 3);
        error("bunch 9", 1, 0);
        error("bench", 1, 5);
        error("bench x", 1, 6);
        error("benches 9", 1, 0);
        error("bench 3", 2, 6);
        error("bench 61", 2, 6);
        error("bench 99999999999999999999999", 2, 6);
        error("bench 4294967305 1", 2, 6);
        error("bench 9 0", 2, 8);
        error("bench 9 21", 2, 8);
        error("bench 9 1 10", 2, 10);
        error("bench 9 1 1 100", 2, 12);
        error("bench 9 1 1 1 1", 1, 14);
        error("bench 9 1 1 1", 1, 13);
        error(head, 1, 14);
        error(head + "gate not 0 1 1 1;", 1, 14);
        error(head + "purses 1 1 1;", 1, 14);
        error(head + "input;", 1, 19);
        error(head + "input 2;", 2, 20);
        error(head + "input 0 0;", 2, 22);
        error(head + "input 0 10;", 2, 22);
        error(head + "input 0 5 5;", 4, 24);
        error(head + "input 0 5 4;", 4, 24);
        error(head + "input 0 5 0;", 2, 24);
        error(head + "input 0 5 10;", 2, 24);
        error(head + "input 0 5 gate", 1, 24);
        error(head + "input 0 5", 1, 23);
        error(one + "input 0;input 0;input 0;input 0;", 3, 46);
        error(one + "input 0;input 0;input 0;inputs", 1, 46);
        error(one + "gate not 0 1 1 1;input 0;", 1, 39);
        error(one + "gate nix 0 1 1 1;", 1, 27);
        error(one + "gate 0", 1, 27);
        error(one + "gate and 0 1 1 1 1;", 2, 33);
        error(one + "gate and 1 0 1 1 1;", 2, 31);
        error(one + "gate not 0 0 1 1;", 2, 33);
        error(one + "gate not 0 1 10 1;", 2, 35);
        error(one + "gate not 0 1 1;", 1, 36);
        error(one + "gate not 0 1 1 1 1;", 1, 39);
        error(one + "gate same 0 1 1 0;", 2, 38);
        error(one + "purses 1 1;", 1, 32);
        error(one + "purses 100000 1 1;", 2, 29);
        error(one + "purses 1 1 1;purses 1 1 1;", 1, 35);
        error(one + "purses 1 1 1;gate not 0 1 1 1;", 1, 35);
        error(one + "purses 1 1 1", 1, 34);
        error(one + ";", 1, 22);
        error(one + "gatez", 1, 22);
        error(one + "zgate", 1, 22);
        error(one + "Gate", 1, 22);
        error(one + "\t", 1, 22);
        error(one + "\u0080", 1, 22);
        StringBuilder sixty = new StringBuilder("bench 60 1 1 1;input 0");
        for (int t = 1; t <= 60; t++) {
            sixty.append(' ').append(t);
        }
        Due.equal("3 sixty times", Due.court(sixty + ";").changes(0, 0), 60);
        error(sixty + " 60;", 4, sixty.length() + 1);
        error(sixty + " 61;", 2, sixty.length() + 1);
        StringBuilder twelve = new StringBuilder(one);
        for (int i = 0; i < 12; i++) {
            twelve.append("gate not 0 1 1 1;");
        }
        error(twelve + "gate not 0 1 1 1;", 3, twelve.length());
        error(twelve + "gates", 1, twelve.length());
        error(twelve + "input 0;", 1, twelve.length());
    }

    private static void error(String text, int code, int position) {
        GlitchCourt x = new GlitchCourt();
        Due.equal("3 load of " + text, Due.load(x, text), -10 - code);
        Due.equal("4 position in " + text, x.errorPosition(), position);
    }

    private static void errorPosition() {
        GlitchCourt x = new GlitchCourt();
        Due.load(x, "bench 3");
        Due.equal("4 load", x.errorPosition(), 6);
        Due.answer(() -> x.load(1));
        Due.answer(() -> x.query(-1));
        Due.equal("4 a call that did not read", x.errorPosition(), 6);
        Due.query(x, "many net=");
        Due.equal("4 query", x.errorPosition(), 9);
        Due.query(x, "many net=0");
        Due.equal("4 good query", x.errorPosition(), NONE);
        Due.load(x, "bench ;");
        Due.equal("4 load again", x.errorPosition(), 6);
        Due.load(x, LAMP);
        Due.equal("4 good load", x.errorPosition(), NONE);
    }

    private static void size() {
        GlitchCourt x = lamp();
        int[] sizes = {1, 2, 20, 4, 2, 5, 0, 50, 60, 7};
        for (int what = 0; what < sizes.length; what++) {
            Due.equal("5 size " + what, x.size(what), sizes[what]);
        }
        x.open(0, 1, 0, true);
        Due.equal("5 disputes", x.size(6), 1);
        for (int what : new int[] {-1, 10, LOW, HIGH}) {
            Due.equal("5 what " + what, Due.answer(() -> x.size(what)), NO_SUCH);
        }
    }

    private static void gate() {
        GlitchCourt x = Due.court("bench 20 4 2 5;input 0 2 4 10;gate same 0 3 2 1;gate nor 1 0 7 8 9;purses 50 60 9;");
        int[] same = {6, 0, NONE, 3, 2, 1, 1, 0, 0, 1};
        // It is 0 at 11 to 13.
        int[] nor = {4, 1, 0, 7, 8, 9, 2, 0, 0, 1};
        for (int what = 0; what < 10; what++) {
            Due.equal("6 gate 1 " + what, x.gate(1, what), same[what]);
            Due.equal("6 gate 2 " + what, x.gate(2, what), nor[what]);
        }
        x.open(0, 1, 0, true);
        x.judge(0);
        x.accept(0);
        Due.equal("6 ruled", x.gate(1, 8), 2);
        x.replay(1, 4, 6);
        Due.equal("6 settled", x.gate(1, 7), 3);
        Due.equal("6 ruled and not settled", x.gate(1, 8), 1);
        for (int net : new int[] {-1, 0, 3, LOW, HIGH}) {
            Due.equal("6 net " + net, Due.answer(() -> x.gate(net, 0)), NO_SUCH);
        }
        for (int what : new int[] {-1, 10, LOW, HIGH}) {
            Due.equal("6 what " + what, Due.answer(() -> x.gate(1, what)), NO_SUCH);
        }
    }

    private static void gateKinds() {
        // Net 0 is 0011 in turn, net 1 is 0101, at the times 1 to 4; delay 1 shows their ideal one time later.
        String inputs = "bench 5 1 1 1;input 0 3 5;input 0 2 3 4 5;";
        String[] kinds = {"and 0 1", "or 0 1", "xor 0 1", "nand 0 1", "nor 0 1", "not 0", "same 0"};
        String[] due = {"000001", "000111", "000110", "111110", "111000", "111100", "000011"};
        for (int i = 0; i < kinds.length; i++) {
            GlitchCourt x = Due.court(inputs + "gate " + kinds[i] + " 1 1 1;");
            Due.equal("7 cheap wave of " + kinds[i], Due.formatted(x, 2, 1), due[i]);
            Due.equal("6 kind of " + kinds[i], x.gate(2, 0), i);
        }
        GlitchCourt y = Due.court(inputs + "gate xor 1 1 1 1 1;gate nand 2 2 1 1 1;");
        Due.equal("7 the same net twice", Due.formatted(y, 2, 2), "000000");
        Due.equal("7 not of it", Due.formatted(y, 3, 2), "111111");
    }

    private static void dearWaves() {
        // A run of d times is swallowed, one of d + 1 passes: rise 2, fall 3.
        String gate = "gate same 0 2 3 1;";
        Due.equal("7 short 1", Due.formatted(Due.court("bench 9 1 1 1;input 0 2 4;" + gate), 1, 2), "0000000000");
        Due.equal("7 long 1", Due.formatted(Due.court("bench 9 1 1 1;input 0 2 5;" + gate), 1, 2), "0000111100");
        Due.equal("7 short 0", Due.formatted(Due.court("bench 9 1 1 1;input 1 2 5;" + gate), 1, 2), "1111111111");
        Due.equal("7 long 0", Due.formatted(Due.court("bench 9 1 1 1;input 1 2 6;" + gate), 1, 2), "1111100011");
        // Cheap and dear agree at time 0 with the ideal there; the cheap wave holds it for its delay.
        Due.equal("7 before the delay", Due.formatted(Due.court("bench 9 1 1 1;input 1 1;gate not 0 1 1 4;"), 1, 1),
                "0000011111");
        Due.equal("7 from time 0 alone", Due.formatted(Due.court("bench 9 1 1 1;input 1 1;gate same 0 1 1 4;"), 1, 1),
                "1111100000");
        Due.equal("7 dear from 0", Due.formatted(Due.court("bench 9 1 1 1;input 1 1;gate not 0 5 1 4;"), 1, 2),
                "0000001111");
        Due.equal("7 dear by dear",
                Due.formatted(Due.court("bench 9 1 1 1;input 0 2 4;" + gate + "gate same 1 1 1 1;"), 2, 2), "0000000000");
    }

    private static void value() {
        GlitchCourt x = lamp();
        Due.equal("7 shown", x.value(1, 3, 0), 1);
        Due.equal("7 cheap", x.value(1, 3, 1), 1);
        Due.equal("7 dear", x.value(1, 3, 2), 0);
        Due.equal("7 input", x.value(0, 20, 2), 1);
        x.replay(1, 3, 3);
        Due.equal("7 shown is settled", x.value(1, 3, 0), 0);
        Due.equal("7 cheap as before", x.value(1, 3, 1), 1);
        // Net 2 is not of net 1 two times later: what is shown follows what is shown.
        Due.equal("7 shown by shown", x.value(2, 5, 0), 1);
        Due.equal("7 cheap by cheap", x.value(2, 5, 1), 0);
        Due.equal("7 net -1", Due.answer(() -> x.value(-1, 0, 0)), NO_SUCH);
        Due.equal("7 net 3", Due.answer(() -> x.value(3, 0, 0)), NO_SUCH);
        Due.equal("7 time -1", Due.answer(() -> x.value(0, -1, 0)), NO_SUCH);
        Due.equal("7 time 21", Due.answer(() -> x.value(0, 21, 0)), NO_SUCH);
        Due.equal("7 kind -1", Due.answer(() -> x.value(0, 0, -1)), NO_SUCH);
        Due.equal("7 kind 3", Due.answer(() -> x.value(0, 0, 3)), NO_SUCH);
    }

    private static void stateAt() {
        GlitchCourt x = lamp();
        Due.equal("8 neither", x.stateAt(1, 3), 0);
        x.open(0, 1, 0, true);
        x.judge(0);
        x.accept(0);
        Due.equal("8 ruled", x.stateAt(1, 3), 1);
        Due.equal("8 before it", x.stateAt(1, 2), 0);
        Due.equal("8 behind it", x.stateAt(1, 5), 0);
        Due.equal("8 other net", x.stateAt(2, 3), 0);
        x.replay(1, 4, 4);
        Due.equal("8 settled before ruled", x.stateAt(1, 4), 2);
        Due.equal("8 input", x.stateAt(0, 20), 0);
        Due.equal("8 net -1", Due.answer(() -> x.stateAt(-1, 0)), NO_SUCH);
        Due.equal("8 net 3", Due.answer(() -> x.stateAt(3, 0)), NO_SUCH);
        Due.equal("8 time -1", Due.answer(() -> x.stateAt(1, -1)), NO_SUCH);
        Due.equal("8 time 21", Due.answer(() -> x.stateAt(0, 21)), NO_SUCH);
    }

    private static void wave() {
        GlitchCourt x = lamp();
        long input = Due.bits(2, 3, 10, 20);
        for (int kind = 0; kind < 3; kind++) {
            Due.equal("9 input " + kind, x.wave(0, kind), input);
        }
        Due.equal("9 shown 1", x.wave(1, 0), Due.bits(3, 4, 11, 20));
        Due.equal("9 cheap 1", x.wave(1, 1), Due.bits(3, 4, 11, 20));
        Due.equal("9 dear 1", x.wave(1, 2), Due.bits(13, 20));
        Due.equal("9 shown 2", x.wave(2, 0), Due.bits(0, 4, 7, 12));
        Due.equal("9 dear 2", x.wave(2, 2), Due.bits(0, 13));
        Due.equal("9 horizon 60", Due.court("bench 60 1 1 1;input 0 60;").wave(0, 0), 1L << 60);
        Due.equal("9 net -1", Due.answer(() -> x.wave(-1, 0)), NO_SUCH);
        Due.equal("9 net 3", Due.answer(() -> x.wave(3, 0)), NO_SUCH);
        Due.equal("9 kind -1", Due.answer(() -> x.wave(0, -1)), NO_SUCH);
        Due.equal("9 kind 3", Due.answer(() -> x.wave(0, 3)), NO_SUCH);
    }

    private static void changes() {
        GlitchCourt x = lamp();
        Due.equal("10 input", x.changes(0, 0), 3);
        Due.equal("10 cheap", x.changes(1, 1), 3);
        Due.equal("10 dear", x.changes(1, 2), 1);
        Due.equal("10 first and last time", Due.court("bench 4 1 1 1;input 0 1 4;").changes(0, 0), 2);
        Due.equal("10 none", new GlitchCourt().changes(0, 0), 0);
        Due.equal("10 ones", Due.court("bench 60 1 1 1;input 1;").changes(0, 0), 0);
        Due.equal("10 net 3", Due.answer(() -> x.changes(3, 0)), NO_SUCH);
        Due.equal("10 kind 3", Due.answer(() -> x.changes(0, 3)), NO_SUCH);
    }

    private static void quietFrom() {
        GlitchCourt x = lamp();
        Due.equal("11 input", x.quietFrom(0, 2), 10);
        Due.equal("11 shown", x.quietFrom(2, 0), 13);
        Due.equal("11 dear", x.quietFrom(2, 2), 14);
        Due.equal("11 always", new GlitchCourt().quietFrom(0, 0), 0);
        Due.equal("11 at the horizon", Due.court("bench 4 1 1 1;input 0 4;").quietFrom(0, 0), 4);
        Due.equal("11 net -1", Due.answer(() -> x.quietFrom(-1, 0)), NO_SUCH);
        Due.equal("11 kind -1", Due.answer(() -> x.quietFrom(0, -1)), NO_SUCH);
    }

    private static void shortest() {
        GlitchCourt x = lamp();
        Due.equal("12 input", x.shortest(0, 0), 2);
        Due.equal("12 dear has no inner run", x.shortest(1, 2), NONE);
        Due.equal("12 none", new GlitchCourt().shortest(0, 0), NONE);
        Due.equal("12 the runs at the ends are shorter",
                Due.court("bench 9 1 1 1;input 0 1 4 9;").shortest(0, 0), 3);
        Due.equal("12 up to the horizon", Due.court("bench 9 1 1 1;input 0 4 9;").shortest(0, 0), 5);
        Due.equal("12 the later one", Due.court("bench 9 1 1 1;input 0 1 4 5 9;").shortest(0, 0), 1);
        Due.equal("12 one change", Due.court("bench 9 1 1 1;input 0 1;").shortest(0, 0), NONE);
        Due.equal("12 net 3", Due.answer(() -> x.shortest(3, 0)), NO_SUCH);
        Due.equal("12 kind 3", Due.answer(() -> x.shortest(0, 3)), NO_SUCH);
    }

    private static void wrong() {
        GlitchCourt x = lamp();
        Due.equal("13 input", x.wrong(0), 0);
        Due.equal("13 net 1", x.wrong(1), 4);
        Due.equal("13 net 2", x.wrong(2), 3);
        x.replay(1, 3, 3);
        Due.equal("13 of the shown wave", x.wrong(1), 3);
        Due.equal("13 net -1", Due.answer(() -> x.wrong(-1)), NO_SUCH);
        Due.equal("13 net 3", Due.answer(() -> x.wrong(3)), NO_SUCH);
    }

    private static void firstWrong() {
        GlitchCourt x = lamp();
        Due.equal("14 input", x.firstWrong(0), NONE);
        Due.equal("14 net 1", x.firstWrong(1), 3);
        Due.equal("14 net 2", x.firstWrong(2), 5);
        x.replay(1, 3, 4);
        Due.equal("14 settled", x.firstWrong(1), 11);
        Due.equal("14 at 60",
                Due.court("bench 60 1 1 1;input 0 59;gate same 0 9 9 1;").firstWrong(1), 60);
        Due.equal("14 net -1", Due.answer(() -> x.firstWrong(-1)), NO_SUCH);
        Due.equal("14 net 3", Due.answer(() -> x.firstWrong(3)), NO_SUCH);
    }

    private static void allWrong() {
        GlitchCourt x = lamp();
        Due.equal("15 both gates", x.allWrong(), 7);
        // Net 1 is right then; net 2 (not, two times later) falls at 15 instead of 14.
        x.deposit(2, 200);
        x.replay(1, 0, 20);
        Due.equal("15 settled net 1", x.allWrong(), 1);
        x.replay(2, 0, 20);
        Due.equal("15 all settled", x.allWrong(), 0);
    }

    private static void worst() {
        GlitchCourt x = lamp();
        x.deposit(2, 100);
        Due.equal("16 net 1", x.worst(), 1);
        x.replay(1, 3, 4);
        // Net 1 is wrong at 11 and 12; net 2, whose input is 0 till 10 now, at 13 only.
        Due.equal("16 still net 1", x.worst(), 1);
        x.replay(1, 11, 11);
        Due.equal("16 wrong 1", x.wrong(1), 1);
        Due.equal("16 wrong 2", x.wrong(2), 0);
        x.replay(1, 12, 12);
        Due.equal("16 only net 2", x.worst(), 2);
        GlitchCourt y = Due.court("bench 9 1 1 1;input 0;gate same 0 1 1 1;");
        Due.equal("16 nothing is wrong", y.worst(), 0);
        GlitchCourt z = Due.court("bench 9 1 1 1;input 0 3;gate same 0 4 4 1;gate same 0 4 4 1;");
        Due.equal("16 a tie", z.worst(), 1);
    }

    private static void dependsOn() {
        GlitchCourt x = Due.court("bench 9 1 1 1;input 0;input 0;gate and 0 1 1 1 1;gate not 1 1 1 1;"
                + "gate or 0 2 1 1 1;gate xor 3 4 1 1 1;gate nor 2 2 1 1 1;");
        Due.equal("17 net 2", x.dependsOn(2), 1 << 2);
        Due.equal("17 net 4", x.dependsOn(4), 1 << 4 | 1 << 2);
        Due.equal("17 net 5", x.dependsOn(5), 1 << 5 | 1 << 4 | 1 << 3 | 1 << 2);
        Due.equal("17 net 6", x.dependsOn(6), 1 << 6 | 1 << 2);
        Due.equal("6 cone", x.gate(5, 6), 4);
        for (int net : new int[] {-1, 0, 1, 7, LOW, HIGH}) {
            Due.equal("17 net " + net, Due.answer(() -> x.dependsOn(net)), NO_SUCH);
        }
        Due.equal("18 net 2", x.touches(2), 1 << 2 | 1 << 4 | 1 << 5 | 1 << 6);
        Due.equal("18 net 3", x.touches(3), 1 << 3 | 1 << 5);
        Due.equal("18 input 0", x.touches(0), 1 << 2 | 1 << 4 | 1 << 5 | 1 << 6);
        Due.equal("18 input 1", x.touches(1), 1 << 2 | 1 << 3 | 1 << 4 | 1 << 5 | 1 << 6);
    }

    private static void touches() {
        GlitchCourt x = lamp();
        Due.equal("18 input", x.touches(0), 6);
        Due.equal("18 net 1", x.touches(1), 6);
        Due.equal("18 net 2", x.touches(2), 4);
        Due.equal("18 no reader", new GlitchCourt().touches(0), 0);
        Due.equal("18 net -1", Due.answer(() -> x.touches(-1)), NO_SUCH);
        Due.equal("18 net 3", Due.answer(() -> x.touches(3)), NO_SUCH);
    }

    private static void longest() {
        GlitchCourt x = Due.court("bench 9 1 1 1;input 0;gate same 0 2 5 9;gate same 0 1 1 9;gate and 1 2 3 1 1;"
                + "gate and 2 1 1 2 1;gate and 0 2 6 4 1;");
        int[] due = {0, 5, 1, 8, 7, 7};
        for (int net = 0; net < due.length; net++) {
            Due.equal("19 net " + net, x.longest(net), due[net]);
        }
        x.setDelay(1, 0, 9);
        Due.equal("19 with another delay", x.longest(3), 12);
        x.undo();
        Due.equal("19 undone", x.longest(3), 8);
        Due.equal("19 net -1", Due.answer(() -> x.longest(-1)), NO_SUCH);
        Due.equal("19 net 6", Due.answer(() -> x.longest(6)), NO_SUCH);
    }

    private static void pulse() {
        GlitchCourt x = lamp();
        int[] due = {3, 4, 1, 4, 0};
        int[] due2 = {5, 6, 0, 8, 1};
        for (int what = 0; what < 5; what++) {
            Due.equal("20 net 1 " + what, x.pulse(1, 0, what), due[what]);
            Due.equal("20 net 2 " + what, x.pulse(2, 0, what), due2[what]);
        }
        x.setDelay(1, 0, 2);
        Due.equal("20 as long as the delay", x.pulse(1, 0, 4), 0);
        x.setDelay(1, 0, 1);
        Due.equal("20 longer than the delay", x.pulse(1, 0, 4), 1);
        x.setLimit(6);
        Due.equal("20 second pulse", x.pulse(1, 1, 0), 5);
        Due.equal("20 its end", x.pulse(1, 1, 1), 10);
        Due.equal("20 by the fall delay", x.pulse(1, 1, 4), 1);
        for (int index : new int[] {-1, 2, LOW, HIGH}) {
            Due.equal("20 index " + index, Due.answer(() -> x.pulse(1, index, 0)), NO_SUCH);
        }
        for (int net : new int[] {-1, 0, 3}) {
            Due.equal("20 net " + net, Due.answer(() -> x.pulse(net, 0, 0)), NO_SUCH);
        }
        Due.equal("20 what -1", Due.answer(() -> x.pulse(1, 0, -1)), NO_SUCH);
        Due.equal("20 what 5", Due.answer(() -> x.pulse(1, 0, 5)), NO_SUCH);
        GlitchCourt y = Due.court("bench 9 3 0 0;input 1 1 3 6 9;gate same 0 1 1 1;");
        // Shown: 1 at 0 and 1, 0 at 2 and 3, 1 at 4 to 6, 0 at 7 to 9.
        Due.equal("20 none at the ends", y.gate(1, 9), 2);
        Due.equal("20 the second", y.pulse(1, 1, 0), 4);
        y.replay(1, 2, 2);
        Due.equal("20 half settled: a free time is enough", y.pulse(1, 0, 0), 2);
        y.replay(1, 3, 3);
        Due.equal("20 settled", y.gate(1, 9), 1);
        y.setLimit(2);
        Due.equal("20 too long", y.gate(1, 9), 0);
        GlitchCourt z = Due.court("bench 9 3 0 0;input 0 6 8;gate same 0 1 1 1;");
        Due.equal("20 up to the time before the horizon", z.pulse(1, 0, 1), 8);
        GlitchCourt w = Due.court("bench 9 3 0 0;input 0 7 9;gate same 0 1 1 1;");
        Due.equal("20 not at the horizon", w.gate(1, 9), 0);
    }

    private static void dispute() {
        GlitchCourt x = lamp();
        x.open(1, 2, 0, false);
        int[] due = {2, 5, 6, 0, 1, 0, 0, NONE, NONE, 8};
        for (int what = 0; what < 10; what++) {
            Due.equal("21 opened " + what, x.dispute(0, what), due[what]);
        }
        x.judge(0);
        Due.equal("21 judged", x.dispute(0, 6), 1);
        Due.equal("21 verdict", x.dispute(0, 7), 1);
        Due.equal("21 loser", x.dispute(0, 8), 1);
        x.open(1, 1, 0, true);
        Due.equal("21 real", x.dispute(1, 5), 1);
        Due.equal("21 value", x.dispute(1, 3), 1);
        Due.equal("21 number -1", Due.answer(() -> x.dispute(-1, 0)), NO_SUCH);
        Due.equal("21 number 2", Due.answer(() -> x.dispute(2, 0)), NO_SUCH);
        Due.equal("21 what -1", Due.answer(() -> x.dispute(0, -1)), NO_SUCH);
        Due.equal("21 what 10", Due.answer(() -> x.dispute(0, 10)), NO_SUCH);
        // A dropped one keeps its verdict.
        x.toggle(0, 0);
        Due.equal("21 dropped", x.dispute(0, 6), 4);
        Due.equal("21 its verdict", x.dispute(0, 7), 1);
        Due.equal("21 never judged", x.dispute(1, 7), NONE);
        x.undo();
        x.undo();
        Due.equal("21 undone", Due.answer(() -> x.dispute(1, 0)), NO_SUCH);
    }

    private static void disputes() {
        GlitchCourt x = Due.court("bench 30 2 1 1;input 0 2 4 6 8 10 12 14 16;gate same 0 2 2 1;purses 99 99 99;");
        Due.equal("22 pulses", x.gate(1, 9), 7);
        for (int i = 0; i < 6; i++) {
            Due.equal("22 open", x.open(0, 1, i, true), i);
        }
        x.judge(1);
        x.judge(2);
        x.accept(2);
        x.judge(3);
        x.appeal(3);
        int[] due = {3, 1, 1, 1, 0};
        for (int state = 0; state < 5; state++) {
            Due.equal("22 state " + state, x.disputes(state), due[state]);
        }
        x.setDelay(1, 0, 9);
        int[] after = {0, 0, 1, 1, 4};
        for (int state = 0; state < 5; state++) {
            Due.equal("22 after the drop, state " + state, x.disputes(state), after[state]);
        }
        for (int state : new int[] {-1, 5, LOW, HIGH}) {
            Due.equal("22 state " + state, Due.answer(() -> x.disputes(state)), ILLEGAL);
        }
    }

    private static void wrongTimes(String name, java.util.function.Function<int[], Object> call) {
        int[][] illegal = {{1, -1, 3}, {1, 21, 21}, {1, 3, 21}, {1, 3, 2}, {1, -2, -1}, {1, LOW, HIGH}, {1, 0, HIGH}};
        for (int[] row : illegal) {
            Due.equal(name + " from " + row[1] + " to " + row[2], Due.answer(() -> call.apply(row)), ILLEGAL);
        }
        for (int net : new int[] {-1, 0, 3, LOW, HIGH}) {
            Due.equal(name + " net " + net, Due.answer(() -> call.apply(new int[] {net, 3, 2})), NO_SUCH);
        }
    }

    private static void cost() {
        GlitchCourt x = lamp();
        Due.equal("23 one time", x.cost(1, 20, 20), 2);
        Due.equal("23 cone", x.cost(2, 0, 0), 4);
        Due.equal("23 all times", x.cost(2, 0, 20), 84);
        Due.equal("23 rate 0", Due.court("bench 9 1 0 1;input 0;gate not 0 1 1 1;").cost(1, 0, 9), 0);
        wrongTimes("23", a -> x.cost(a[0], a[1], a[2]));
    }

    private static void gain() {
        GlitchCourt x = lamp();
        Due.equal("24 the pulse, and net 2 follows", x.gain(1, 3, 4), 4);
        Due.equal("24 one time", x.gain(1, 3, 3), 2);
        Due.equal("24 nothing wrong there", x.gain(2, 0, 4), 0);
        Due.equal("24 net 2", x.gain(2, 5, 20), 3);
        // Net 2 would be right at 13 and wrong at 14.
        Due.equal("24 behind the edge", x.gain(1, 11, 12), 2);
        Due.equal("24 nothing is changed", x.allWrong(), 7);
        Due.equal("24 nothing is settled", x.gate(1, 7), 0);
        wrongTimes("24", a -> x.gain(a[0], a[1], a[2]));
        // Net 1 is 1 from 11 on, dear from 13 on; nets 2 and 3 are right (1 from 14 on) by its being wrong.
        GlitchCourt y = Due.court("bench 20 4 1 1;input 0 10;gate same 0 3 3 1;gate same 1 1 1 3;gate same 1 1 1 3;");
        Due.equal("24 can be negative", y.gain(1, 11, 12), -2);
    }

    private static void bestReplay() {
        GlitchCourt x = lamp();
        // Net 1, 3 to 4: gain 4 for 4; net 2, 5 to 6: gain 2 for 8, more than the court has.
        Due.equal("25 best", x.bestReplay(), 100);
        x.replay(1, 20, 20);
        x.replay(1, 20, 20);
        Due.equal("25 the court has 3", x.bestReplay(), NONE);
        x.deposit(2, 1);
        Due.equal("25 just enough", x.bestReplay(), 100);
        x.replay(1, 3, 4);
        Due.equal("25 nothing left", x.bestReplay(), NONE);
        Due.equal("25 no gates", new GlitchCourt().bestReplay(), NONE);
        // Two gates alike: the lower number; of equal gains the cheaper.
        String twins = "bench 20 4 2 5;input 0 2 4;gate same 0 3 2 1;gate same 0 3 2 1;purses 0 0 99;";
        Due.equal("25 a tie", Due.court(twins).bestReplay(), 100);
        String wide = "bench 20 4 1 5;input 0 2 4;gate same 0 1 1 1;gate same 1 3 2 1;gate same 0 3 2 1;purses 0 0 99;";
        // Net 1 is right. Net 2 is shown 1 at 4 and 5, net 3 at 3 and 4; both are dear 0.
        GlitchCourt z = Due.court(wide);
        Due.equal("25 gain of net 2", z.gain(2, 4, 5), 2);
        Due.equal("25 gain of net 3", z.gain(3, 3, 4), 2);
        Due.equal("25 the cheaper of equal ones", z.bestReplay(), 300);
        String one = "bench 20 4 1 5;input 0 2 3;";
        Due.equal("25 a gain of 1", Due.court(one + "gate same 0 3 2 1;purses 0 0 1;").bestReplay(), 100);
        // Net 1 is always 0; nets 2 (cone 2) and 3 (cone 1) are wrong at one time each.
        Due.equal("25 a gain of 1, and cheaper", Due.court(one
                + "gate xor 0 0 1 1 1;gate or 0 1 3 3 1;gate same 0 3 3 1;purses 0 0 99;").bestReplay(), 300);
        Due.equal("25 the number of the pulse",
                Due.court("bench 20 4 1 5;input 0 2 6 8 10;gate same 0 3 3 1;purses 0 0 99;").bestReplay(), 101);
    }

    private static void misjudged() {
        GlitchCourt x = Due.court(LOST);
        x.open(0, 2, 0, false);
        Due.equal("26 no verdict", x.misjudged(), 0);
        x.judge(0);
        Due.equal("26 judged real, dear swallowed", x.misjudged(), 1);
        x.accept(0);
        Due.equal("26 accepted", x.misjudged(), 1);
        x.undo();
        x.appeal(0);
        Due.equal("26 appealed", x.misjudged(), 0);
        // With a rise delay of 1 the pulse of net 1 is dear, too: the appealed verdict is wrong by now.
        x.setDelay(1, 0, 1);
        Due.equal("26 another dear wave", x.misjudged(), 1);
        GlitchCourt y = Due.court(SLOW);
        y.open(0, 1, 1, true);
        y.judge(0);
        Due.equal("26 judged swallowed, dear real", y.misjudged(), 1);
        y.toggle(0, 20);
        Due.equal("26 dropped", y.disputes(4), 1);
        Due.equal("26 dropped ones count", y.misjudged(), 1);
    }

    private static void excess() {
        GlitchCourt x = lamp();
        Due.equal("27 six by two", x.excess(), 3.0);
        x.replay(1, 3, 4);
        Due.equal("27 two by two", x.excess(), 1.0);
        Due.equal("27 nothing dear changes", Due.court(LOST).excess(), 0.0);
        Due.equal("27 no gates", new GlitchCourt().excess(), 0.0);
        GlitchCourt y = Due.court("bench 9 1 1 1;input 0 1;gate same 0 1 1 1;gate same 0 1 1 1;gate same 0 1 1 9;");
        Due.equal("27 a broken number", y.excess(), 2 / 3.0);
    }

    private static void settledShare() {
        GlitchCourt x = lamp();
        Due.equal("28 nothing", x.settledShare(), 0.0f);
        x.replay(1, 3, 5);
        Due.equal("28 three of 42", x.settledShare(), 3.0f / 42.0f);
        Due.equal("28 no gates", new GlitchCourt().settledShare(), 0.0f);
        GlitchCourt y = Due.court("bench 4 1 0 0;input 0;gate not 0 1 1 1;");
        y.replay(1, 0, 4);
        Due.equal("28 all", y.settledShare(), 1.0f);
    }

    private static void open() {
        GlitchCourt x = Due.court("bench 60 2 1 0;input 0 2 4 6 8 10 12 14 16 18 20 22 24 26 28 30 32 34 36 38 40 42 44 46;"
                + "gate same 0 2 2 1;gate same 0 2 2 1;purses 99 99 99;");
        Due.equal("29 gate is checked first", Due.answer(() -> x.open(2, 0, 0, true)), NO_SUCH);
        Due.equal("29 pulse is checked first", Due.answer(() -> x.open(2, 1, 22, true)), NO_SUCH);
        Due.equal("29 pulse -1", Due.answer(() -> x.open(0, 1, -1, true)), NO_SUCH);
        Due.equal("29 party 2", Due.answer(() -> x.open(2, 1, 0, true)), ILLEGAL);
        Due.equal("29 party -1", Due.answer(() -> x.open(-1, 1, 0, true)), ILLEGAL);
        Due.equal("29 nothing recorded", x.undoCount(), 0);
        Due.equal("29 first", x.open(0, 1, 0, true), 0);
        Due.equal("29 the same pulse", x.open(1, 1, 0, false), -2);
        Due.equal("29 of another gate", x.open(1, 2, 0, false), 1);
        x.judge(0);
        Due.equal("29 a judged one", x.open(1, 1, 0, false), -2);
        Due.equal("29 nothing more recorded", x.undoCount(), 3);
        for (int i = 2; i < 20; i++) {
            Due.equal("29 next", x.open(0, 1, i - 1, false), i);
        }
        Due.equal("29 the 21st", x.open(0, 1, 20, false), -3);
        Due.equal("29 both: the first code", x.open(0, 1, 3, false), -2);
        Due.equal("22 of 20", x.disputes(0), 19);
        Due.equal("26 of 20", x.misjudged(), 0);
        Due.equal("35 of 20", x.toggle(0, 60), 20);
        Due.equal("22 of 20 dropped", x.disputes(4), 20);
        Due.equal("41 of 20", x.undo(), 9);
        x.undo();
        Due.equal("29 room again", x.open(1, 1, 18, true), 19);
        Due.equal("29 its claim", x.dispute(19, 5), 1);
        Due.equal("29 undone claim gone", x.dispute(19, 4), 1);
        openOverlap();
        openAgain();
    }

    /** The rows of disputes are used again, too. */
    private static void openAgain() {
        GlitchCourt x = lamp();
        x.saveSnapshot();
        x.open(1, 2, 0, true);
        x.judge(0);
        x.restoreSnapshot();
        Due.equal("29 the first again", x.open(0, 1, 0, false), 0);
        Due.equal("29 it is open", x.dispute(0, 6), 0);
        Due.equal("29 it has no verdict", x.dispute(0, 7), NONE);
        x.saveSnapshot();
        x.undo();
        x.open(1, 2, 0, true);
        x.restoreSnapshot();
        int[] due = {1, 3, 4, 1, 0, 0, 0, NONE, NONE, 4};
        for (int what = 0; what < 10; what++) {
            Due.equal("43 the dispute of the snapshot " + what, x.dispute(0, what), due[what]);
        }
    }

    private static void openOverlap() {
        // The pulse of net 1 is 3 to 5; with 4 settled to 0 the pulses are 3 to 3 and 5 to 5.
        GlitchCourt x = Due.court(LOST);
        x.open(0, 1, 0, true);
        x.replay(1, 4, 4);
        Due.equal("29 the first part", x.open(0, 1, 0, true), -2);
        Due.equal("29 the last part", x.open(0, 1, 1, true), -2);
        Due.equal("29 the settled part is no pulse", Due.answer(() -> x.open(0, 1, 2, true)), NO_SUCH);
        x.judge(0);
        x.accept(0);
        Due.equal("29 ruled to 0", x.gate(1, 9), 0);
        x.undo();
        x.setDelay(1, 0, 1);
        Due.equal("29 a dropped one does not bar", x.open(0, 1, 0, true), 1);
        // Of pulses that lie side by side each has its dispute.
        GlitchCourt y = Due.court("bench 20 2 1 0;input 0 2 4 6;gate same 0 2 2 1;");
        Due.equal("29 pulse 3 to 4", y.open(0, 1, 0, true), 0);
        Due.equal("29 pulse 5 to 6", y.open(0, 1, 1, true), 1);
    }

    private static void judge() {
        GlitchCourt x = lamp();
        x.open(0, 1, 0, true);
        Due.equal("30 shorter than the delay", x.judge(0), 0);
        Due.equal("30 the loser pays", x.size(7), 45);
        Due.equal("30 the other does not", x.size(8), 60);
        Due.equal("30 to the court", x.size(9), 12);
        Due.equal("30 twice", x.judge(0), -2);
        x.open(0, 2, 0, true);
        Due.equal("30 longer than the delay", x.judge(1), 1);
        Due.equal("30 the other party has lost", x.size(8), 55);
        Due.equal("30 number -1", Due.answer(() -> x.judge(-1)), NO_SUCH);
        Due.equal("30 number 2", Due.answer(() -> x.judge(2)), NO_SUCH);
        Due.equal("30 number 20", Due.answer(() -> x.judge(20)), NO_SUCH);
        GlitchCourt y = Due.court("bench 20 4 2 5;input 0 2 4 10;gate same 0 2 1 1;purses 5 4 0;");
        y.open(1, 1, 0, true);
        Due.equal("30 as long as the delay; less than the fee", y.judge(0), -3);
        Due.equal("30 nothing recorded", y.undoCount(), 1);
        y.undo();
        y.open(1, 1, 0, false);
        Due.equal("30 just the fee", y.judge(0), 0);
        Due.equal("30 nothing left", y.size(7), 0);
        y.undo();
        Due.equal("30 undone", y.dispute(0, 7), NONE);
        // The window counts, though the pulse is no more what it was.
        GlitchCourt z = Due.court(SLOW);
        z.open(0, 1, 1, true);
        Due.equal("30 by the fall delay", z.judge(0), 0);
        z.setDelay(1, 1, 1);
        z.open(0, 1, 1, true);
        Due.equal("30 real by the fall delay", z.judge(1), 1);
    }

    private static void appeal() {
        GlitchCourt x = lamp();
        x.open(0, 1, 0, true);
        Due.equal("31 not judged", x.appeal(0), -2);
        x.judge(0);
        Due.equal("31 the verdict stays", x.appeal(0), 0);
        Due.equal("31 the loser pays the stake", x.size(7), 41);
        Due.equal("31 to the court", x.size(9), 16);
        Due.equal("31 settled", x.stateAt(1, 3) + x.stateAt(1, 4), 4);
        Due.equal("31 only the window", x.gate(1, 7), 2);
        Due.equal("31 state", x.dispute(0, 6), 2);
        Due.equal("31 twice", x.appeal(0), -2);
        Due.equal("31 number -1", Due.answer(() -> x.appeal(-1)), NO_SUCH);
        Due.equal("31 number 1", Due.answer(() -> x.appeal(1)), NO_SUCH);
        GlitchCourt y = Due.court(LOST);
        y.open(0, 2, 0, false);
        Due.equal("31 real at first", y.judge(0), 1);
        Due.equal("31 changed", y.appeal(0), 0);
        Due.equal("31 the appellant pays the fee only", y.size(7), 45);
        Due.equal("31 the other one the stake", y.size(8), 48);
        Due.equal("31 the court", y.size(9), 24);
        Due.equal("31 verdict", y.dispute(0, 7), 0);
        Due.equal("31 loser", y.dispute(0, 8), 1);
        GlitchCourt z = Due.court(LOST.replace("purses 50 60 7", "purses 17 8 0"));
        z.open(0, 2, 0, false);
        z.judge(0);
        Due.equal("31 just the stake", z.appeal(0), 0);
        Due.equal("31 all that it has", z.size(8), 0);
        Due.equal("31 the court has that and the fee", z.size(9), 13);
        GlitchCourt v = Due.court(LOST.replace("purses 50 60 7", "purses 16 8 0"));
        v.open(0, 2, 0, false);
        v.judge(0);
        Due.equal("31 less than the stake", v.appeal(0), -3);
        Due.equal("31 nothing recorded", v.undoCount(), 2);
        Due.equal("31 nothing settled", v.gate(2, 7), 0);
        GlitchCourt w = Due.court(SLOW);
        w.open(0, 1, 1, true);
        w.judge(0);
        Due.equal("31 swallowed becomes real", w.appeal(0), 1);
        Due.equal("31 the other party pays", w.size(8), 7);
    }

    private static void accept() {
        GlitchCourt x = lamp();
        x.open(0, 1, 0, true);
        Due.equal("32 not judged", x.accept(0), -2);
        x.judge(0);
        Due.equal("32 newly ruled", x.accept(0), 2);
        Due.equal("32 swallowed: the opposite value", x.wave(1, 0), Due.bits(11, 20));
        Due.equal("32 net 2 follows", x.wave(2, 0), Due.bits(0, 12));
        Due.equal("32 state", x.dispute(0, 6), 3);
        Due.equal("32 twice", x.accept(0), -2);
        Due.equal("32 number -1", Due.answer(() -> x.accept(-1)), NO_SUCH);
        Due.equal("32 number 1", Due.answer(() -> x.accept(1)), NO_SUCH);
        GlitchCourt y = lamp();
        y.open(0, 2, 0, true);
        y.judge(0);
        Due.equal("32 real", y.accept(0), 2);
        Due.equal("32 the value of the dispute", y.wave(2, 0), Due.bits(0, 4, 7, 12));
        Due.equal("32 ruled", y.gate(2, 8), 2);
        Due.equal("32 no pulse any more", y.gate(2, 9), 0);
        // It stays ruled when net 1 is settled in such a way that net 2 would not have the pulse.
        y.replay(1, 3, 4);
        Due.equal("32 the ruled value stays", y.wave(2, 0), Due.bits(0, 4, 7, 12));
        GlitchCourt z = Due.court(LOST);
        z.open(0, 1, 0, true);
        z.judge(0);
        z.replay(1, 4, 4);
        Due.equal("32 settled ones are not counted", z.accept(0), 2);
        Due.equal("32 settled counts before ruled", z.stateAt(1, 4), 2);
        ruledAgain();
    }

    private static void ruledAgain() {
        // The shown wave of net 1 is 1 at 3 to 5 and at 7; the pulse of 0 at 6 is ruled to 1, then 3 to 7 to 0.
        GlitchCourt x = Due.court("bench 20 5 0 0;input 0 2 5 6 7;gate same 0 9 9 1;");
        Due.equal("32 pulse at 6", x.pulse(1, 1, 0), 6);
        x.open(0, 1, 1, true);
        Due.equal("32 swallowed", x.judge(0), 0);
        Due.equal("32 one time", x.accept(0), 1);
        Due.equal("32 filled", x.wave(1, 0), Due.bits(3, 7));
        x.open(0, 1, 0, true);
        x.judge(1);
        Due.equal("32 four more", x.accept(1), 4);
        Due.equal("32 in place of what it was ruled", x.wave(1, 0), 0L);
        Due.equal("32 five ruled", x.gate(1, 8), 5);
        x.undo();
        Due.equal("32 undone", x.wave(1, 0), Due.bits(3, 7));
    }

    private static void replay() {
        GlitchCourt x = lamp();
        Due.equal("33 newly settled", x.replay(1, 3, 4), 2);
        Due.equal("33 paid", x.size(9), 3);
        Due.equal("33 shown", x.wave(1, 0), Due.bits(11, 20));
        Due.equal("33 one more", x.replay(1, 4, 4), 0);
        Due.equal("33 paid again", x.size(9), 1);
        Due.equal("33 less than the cost", x.replay(1, 5, 5), -3);
        Due.equal("33 recorded", x.undoCount(), 2);
        x.deposit(2, 1);
        Due.equal("33 just the cost", x.replay(1, 4, 4), 0);
        Due.equal("33 nothing left", x.size(9), 0);
        wrongTimes("33", a -> x.replay(a[0], a[1], a[2]));
        Due.equal("33 the parties do not pay", x.size(7) + x.size(8), 110);
        GlitchCourt y = Due.court("bench 60 4 0 5;input 0 2 4 10;gate same 0 3 2 1;");
        Due.equal("33 for nothing", y.replay(1, 0, 60), 61);
        Due.equal("33 as the dear wave", y.wave(1, 0), y.wave(1, 2));
    }

    private static void setDelay() {
        GlitchCourt x = lamp();
        x.deposit(2, 99);
        x.open(0, 1, 0, true);
        x.open(0, 2, 0, true);
        x.judge(1);
        x.replay(1, 0, 0);
        x.replay(2, 0, 0);
        Due.equal("34 the same delay", x.setDelay(1, 0, 3), 3);
        Due.equal("34 changes nothing", x.gate(1, 7), 1);
        Due.equal("34 but is recorded", x.undoCount(), 7);
        Due.equal("34 fall delay of net 2", x.setDelay(2, 1, 9), 1);
        Due.equal("34 net 1 is not touched", x.gate(1, 7), 1);
        Due.equal("34 its dispute neither", x.dispute(0, 6), 0);
        Due.equal("34 net 2 is", x.gate(2, 7), 0);
        Due.equal("34 its dispute is", x.dispute(1, 6), 4);
        Due.equal("34 new delay", x.gate(2, 4), 9);
        Due.equal("34 cheap delay", x.setDelay(1, 2, 9), 1);
        Due.equal("34 cheap wave", x.wave(1, 1), Due.bits(11, 12, 19, 20));
        Due.equal("34 settled no more", x.gate(1, 7), 0);
        Due.equal("34 dropped", x.dispute(0, 6), 4);
        Due.equal("34 rise", x.setDelay(1, 0, 1), 3);
        Due.equal("34 dear wave", x.wave(1, 2), Due.bits(3, 5, 11, 20));
        for (int bad : new int[] {-1, 3, LOW, HIGH}) {
            Due.equal("34 which " + bad, Due.answer(() -> x.setDelay(1, bad, 1)), ILLEGAL);
        }
        for (int bad : new int[] {0, 10, -1, LOW, HIGH}) {
            Due.equal("34 delay " + bad, Due.answer(() -> x.setDelay(1, 0, bad)), ILLEGAL);
        }
        for (int net : new int[] {-1, 0, 3}) {
            Due.equal("34 net " + net, Due.answer(() -> x.setDelay(net, 9, 0)), NO_SUCH);
        }
        // Ruled times go, too, and accepted disputes stay.
        GlitchCourt y = lamp();
        y.open(0, 1, 0, true);
        y.judge(0);
        y.accept(0);
        y.setDelay(1, 1, 9);
        Due.equal("34 ruled no more", y.gate(1, 8), 0);
        Due.equal("34 shown again", y.wave(1, 0), Due.bits(3, 4, 11, 20));
        Due.equal("34 accepted", y.dispute(0, 6), 3);
    }

    private static void toggle() {
        GlitchCourt x = Due.court("bench 20 4 2 5;input 0 2 4 10;input 0;gate same 0 3 2 1;gate not 1 1 1 2;"
                + "gate xor 2 0 1 1 1;purses 50 60 7;");
        x.open(0, 2, 0, true);
        x.open(0, 4, 0, true);
        x.replay(2, 0, 0);
        Due.equal("35 the other input", x.toggle(1, 20), 0);
        Due.equal("35 net 2 is not touched", x.gate(2, 7), 1);
        Due.equal("35 wave", x.wave(1, 0), 1L << 20);
        Due.equal("35 two are dropped", x.toggle(0, 4), 2);
        Due.equal("35 from then on", x.wave(0, 0), Due.bits(2, 9));
        Due.equal("35 no settled times", x.gate(2, 7), 0);
        Due.equal("35 dropped", x.disputes(4), 2);
        Due.equal("35 from 0", x.toggle(0, 0), 0);
        Due.equal("35 all of it", x.wave(0, 2), Due.bits(0, 1, 10, 20));
        Due.equal("35 time -1", Due.answer(() -> x.toggle(0, -1)), ILLEGAL);
        Due.equal("35 time 21", Due.answer(() -> x.toggle(0, 21)), ILLEGAL);
        for (int input : new int[] {-1, 2, LOW, HIGH}) {
            Due.equal("35 input " + input, Due.answer(() -> x.toggle(input, -1)), NO_SUCH);
        }
        Due.equal("35 recorded", x.undoCount(), 6);
        x.undo();
        x.undo();
        Due.equal("35 undone", x.wave(0, 0), Due.bits(2, 3, 10, 20));
        Due.equal("35 open again", x.disputes(0), 2);
        Due.equal("35 settled again", x.gate(2, 7), 1);
    }

    private static void deposit() {
        GlitchCourt x = lamp();
        Due.equal("36 party 0", x.deposit(0, 0), 50);
        Due.equal("36 party 1", x.deposit(1, 99999), 100059);
        Due.equal("36 court", x.deposit(2, 3), 10);
        Due.equal("36 recorded", x.undoCount(), 3);
        for (int purse : new int[] {-1, 3, LOW, HIGH}) {
            Due.equal("36 purse " + purse, Due.answer(() -> x.deposit(purse, 1)), ILLEGAL);
        }
        for (int amount : new int[] {-1, 100000, LOW, HIGH}) {
            Due.equal("36 amount " + amount, Due.answer(() -> x.deposit(0, amount)), ILLEGAL);
        }
        for (int i = 0; i < 9; i++) {
            x.deposit(2, 99999);
        }
        Due.equal("36 to the brim", x.deposit(2, 99999), 1000000);
        Due.equal("36 one more", x.deposit(2, 1), -3);
        Due.equal("36 nothing changed", x.size(9), 1000000);
        Due.equal("36 nothing more", x.deposit(2, 0), 1000000);
        x.open(0, 1, 0, true);
        x.judge(0);
        Due.equal("36 a fee goes over it", x.size(9), 1000005);
        Due.equal("36 then no deposit goes in", x.deposit(2, 0), -3);
    }

    private static void setLimit() {
        GlitchCourt x = lamp();
        Due.equal("37 before", x.setLimit(6), 4);
        Due.equal("37 more pulses", x.gate(1, 9), 2);
        Due.equal("37 least", x.setLimit(1), 6);
        Due.equal("37 fewer", x.gate(1, 9), 0);
        Due.equal("37 greatest", x.setLimit(20), 1);
        Due.equal("37 size", x.size(3), 20);
        for (int limit : new int[] {0, 21, -1, LOW, HIGH}) {
            Due.equal("37 limit " + limit, Due.answer(() -> x.setLimit(limit)), ILLEGAL);
        }
        Due.equal("37 the same again", x.setLimit(20), 20);
        Due.equal("37 recorded", x.undoCount(), 4);
        x.undo();
        x.undo();
        Due.equal("37 undone", x.size(3), 1);
    }

    private static void format() {
        GlitchCourt x = lamp();
        Due.equal("38 length", x.format(1, 0), 21);
        Due.equal("38 input", Due.formatted(x, 0, 0), "001100000011111111111");
        Due.equal("38 net 1", Due.formatted(x, 1, 0), "000110000001111111111");
        x.open(0, 1, 0, true);
        x.judge(0);
        x.accept(0);
        x.replay(1, 4, 5);
        x.replay(1, 13, 13);
        Due.equal("38 shown", Due.formatted(x, 1, 0), "000lLL0000011H1111111");
        Due.equal("38 cheap", Due.formatted(x, 1, 1), "000110000001111111111");
        Due.equal("38 dear", Due.formatted(x, 1, 2), "000000000000011111111");
        GlitchCourt y = Due.court(SLOW);
        y.open(0, 1, 1, true);
        y.judge(0);
        y.accept(0);
        Due.equal("38 ruled to 1", Due.formatted(y, 1, 0), "00011hh11111111111111");
        y.toggle(0, 20);
        Due.equal("38 ruled no more", Due.formatted(y, 1, 0), "000110011111111111111");
        Due.equal("38 net -1", Due.answer(() -> x.format(-1, 0)), NO_SUCH);
        Due.equal("38 net 3", Due.answer(() -> x.format(3, 0)), NO_SUCH);
        Due.equal("38 kind -1", Due.answer(() -> x.format(0, -1)), NO_SUCH);
        Due.equal("38 kind 3", Due.answer(() -> x.format(0, 3)), NO_SUCH);
        Due.equal("38 a refused call leaves the text", x.formattedByte(20), (int) '1');
    }

    private static void formattedByte() {
        GlitchCourt x = lamp();
        x.format(1, 0);
        Due.equal("39 first", x.formattedByte(0), (int) '0');
        Due.equal("39 last", x.formattedByte(20), (int) '1');
        for (int index : new int[] {-1, 21, LOW, HIGH}) {
            Due.equal("39 index " + index, x.formattedByte(index), NONE);
        }
        x.saveSnapshot();
        x.replay(1, 3, 3);
        Due.equal("39 as it was then", x.formattedByte(3), (int) '1');
        x.format(1, 0);
        x.undo();
        Due.equal("39 behind undo", x.formattedByte(3), (int) 'L');
        x.restoreSnapshot();
        Due.equal("39 behind restoreSnapshot", x.formattedByte(3), (int) 'L');
        Due.load(x, "bench 4 1 1 1;input 1;");
        Due.equal("39 behind load", x.formattedByte(20), (int) '1');
        x.format(0, 0);
        Due.equal("39 a shorter text", x.formattedByte(5), NONE);
        Due.equal("39 its end", x.formattedByte(4), (int) '1');
        GlitchCourt y = Due.court("bench 60 1 1 1;input 0 60;");
        Due.equal("38 the longest text", y.format(0, 0), 61);
        Due.equal("39 its last byte", y.formattedByte(60), (int) '1');
        Due.equal("39 behind it", y.formattedByte(61), NONE);
    }

    private static void undoCount() {
        GlitchCourt x = lamp();
        Due.equal("40 none", x.undoCount(), 0);
        for (int i = 1; i <= 12; i++) {
            x.deposit(0, 1);
            Due.equal("40 after " + i, x.undoCount(), Math.min(i, 10));
        }
        x.saveSnapshot();
        x.format(0, 0);
        Due.equal("40 questions do not count", x.undoCount(), 10);
        x.undo();
        Due.equal("40 after an undo", x.undoCount(), 9);
        Due.answer(() -> x.judge(0));
        x.replay(2, 0, 20);
        Due.equal("40 refused calls do not count", x.undoCount(), 9);
        x.setLimit(4);
        Due.equal("40 what changes nothing counts", x.undoCount(), 10);
    }

    private static void undo() {
        GlitchCourt x = lamp();
        Due.equal("41 nothing", x.undo(), NONE);
        for (int i = 1; i <= 12; i++) {
            x.deposit(0, i);
        }
        for (int i = 9; i >= 0; i--) {
            Due.equal("41 left", x.undo(), i);
        }
        Due.equal("41 the ten most recent", x.size(7), 50 + 1 + 2);
        Due.equal("41 no more", x.undo(), NONE);
        x.open(0, 1, 0, true);
        x.judge(0);
        x.appeal(0);
        x.setDelay(1, 2, 2);
        Due.equal("41 the delay", x.undo(), 3);
        Due.equal("41 is back", x.gate(1, 5), 1);
        Due.equal("41 settled again", x.gate(1, 7), 2);
        x.undo();
        Due.equal("41 judged again", x.dispute(0, 6), 1);
        Due.equal("41 not settled", x.gate(1, 7), 0);
        Due.equal("41 waves", x.wave(1, 0), Due.bits(3, 4, 11, 20));
        x.undo();
        Due.equal("41 open again", x.dispute(0, 6), 0);
        Due.equal("41 the fee is back", x.size(7), 53);
        Due.equal("41 from the court", x.size(9), 7);
        x.undo();
        Due.equal("41 no dispute", x.size(6), 0);
    }

    private static void snapshot() {
        GlitchCourt x = lamp();
        Due.equal("43 none", x.restoreSnapshot(), false);
        x.deposit(0, 1);
        Due.equal("43 history stays without one", x.undoCount(), 1);
        x.saveSnapshot();
        Due.equal("42 no operation", x.undoCount(), 1);
        x.setLimit(9);
        x.setDelay(1, 2, 2);
        x.toggle(0, 9);
        x.replay(1, 3, 3);
        x.open(0, 2, 0, true);
        Due.equal("43 there is one", x.restoreSnapshot(), true);
        Due.equal("43 history is cleared", x.undo(), NONE);
        Due.equal("43 limit", x.size(3), 4);
        Due.equal("43 delay", x.gate(1, 5), 1);
        Due.equal("43 input", x.wave(0, 0), Due.bits(2, 3, 10, 20));
        Due.equal("43 settled", x.gate(1, 7), 0);
        Due.equal("43 disputes", x.size(6), 0);
        Due.equal("43 purse", x.size(7), 51);
        x.deposit(0, 1);
        Due.equal("43 it is kept", x.restoreSnapshot(), true);
        Due.equal("43 and as it was", x.size(7), 51);
        x.deposit(0, 5);
        x.saveSnapshot();
        x.deposit(0, 5);
        x.restoreSnapshot();
        Due.equal("42 replaced", x.size(7), 56);
        x.deposit(0, 1);
        x.undo();
        Due.equal("43 undo does not touch it", x.restoreSnapshot(), true);
        Due.load(x, LAMP);
        Due.equal("42 discarded by load", x.restoreSnapshot(), false);
    }

    private static void query() {
        GlitchCourt x = lamp();
        x.open(0, 1, 0, true);
        x.judge(0);
        x.accept(0);
        x.replay(1, 4, 5);
        // Nets 0, 1, 2: kind 0, 7, 6; cone 0, 1, 2; changes 3, 1, 1; wrong 0, 2, 1; settled 0, 2, 0; ruled 0, 1, 0.
        asked(x, "many net<2", 2);
        asked(x, "first net>0", 1);
        asked(x, "first net>2", NONE);
        asked(x, "many net>2", 0);
        asked(x, "first kind=0", 0);
        asked(x, "first kind=6", 2);
        asked(x, "first kind=7", 1);
        asked(x, "first cone=2", 2);
        asked(x, "many cone=0", 1);
        asked(x, "many changes=1", 2);
        asked(x, "first changes=3", 0);
        asked(x, "first wrong=2", 1);
        asked(x, "first wrong=1", 2);
        asked(x, "first settled=2", 1);
        asked(x, "many settled=0", 2);
        asked(x, "first ruled=1", 1);
        asked(x, "many pulses=0", 3);
        asked(x, "many last=1", 2);
        asked(x, "first last=0", 2);
        asked(x, "many 9999>net", 3);
        asked(x, "many 0001=cone", 1);
        asked(x, "many not net=1", 2);
        asked(x, "first not not net=1", 1);
        asked(x, "many net=0 or net=1 and net=2", 1);
        asked(x, "many (net=0 or net=1) and net=2", 0);
        asked(x, "many not net=0 and net=1", 1);
        asked(x, "many not (net=0 and net=1)", 3);
        asked(x, "many not (net=0 or net=1) or net=0", 2);
        asked(x, "many net=0 or (net=1 and (net=1 or net=2)) or net=2", 3);
        asked(x, "many\nnet=net and((cone<kind))", 2);
        asked(x, "first not not not not not not net=1", 1);
        asked(x, "many((((((net=1))))))or((((((net=2))))))", 2);
        asked(x, "many not(not(not(net=1)))", 2);
        asked(x, "many net=1 and not net=0", 1);
        asked(x, "many net=1 and (net=0 or net=2) or not (net=1)", 2);
        asked(x, "many ((((((net=1))))) and not not net=1)", 1);
        asked(x, "many not not not not not not net=1 and not not not not not not net=1", 1);
        x.undo();
        x.undo();
        asked(x, "many pulses=1", 2);
        asked(Due.court("bench 9 9 9 9;input 0 2 4;"), "many pulses=0 and kind=0 and changes=2", 1);
        // Only the first bytes are read, and the buffer is empty then.
        Due.feed(x, "many net<2 or net=2 ");
        Due.equal("44 first bytes", x.query(10), 2);
        Due.feed(x, "many net<2222");
        Due.equal("44 a number that is cut off", x.query(10), 2);
        Due.feed(x, "many 1=lastlast");
        Due.equal("44 a word that is cut off", x.query(11), 2);
        Due.equal("44 empty", Due.answer(() -> x.query(1)), ILLEGAL);
        Due.feed(x, " ".repeat(220));
        Due.equal("44 length 201", Due.answer(() -> x.query(201)), ILLEGAL);
        Due.equal("44 length -1", Due.answer(() -> x.query(-1)), ILLEGAL);
        Due.equal("44 lowest", Due.answer(() -> x.query(LOW)), ILLEGAL);
        Due.equal("44 highest", Due.answer(() -> x.query(HIGH)), ILLEGAL);
        Due.equal("44 200 blanks", x.query(200), HIDDEN - 1);
        Due.equal("44 their end", x.errorPosition(), 200);
        String full = "many " + "net=1 or ".repeat(21) + "net=1";
        asked(x, full, 1);
    }

    private static void asked(GlitchCourt x, String text, int due) {
        Due.equal("44 " + text, Due.query(x, text), due);
        Due.equal("4 behind " + text, x.errorPosition(), NONE);
    }

    private static void queryErrors() {
        refused("", 1, 0);
        refused("most net=1", 1, 0);
        refused("many", 1, 4);
        refused("many many net=1", 1, 5);
        refused("many net", 1, 8);
        refused("many net=", 1, 9);
        refused("many net 1", 1, 9);
        refused("many net==1", 1, 9);
        refused("many name=1", 1, 5);
        refused("many nets=1", 1, 5);
        refused("many net=1;", 1, 10);
        refused("many net=1 net=1", 1, 11);
        refused("many net=1 and", 1, 14);
        refused("many net=1 or or", 1, 14);
        refused("many net=1 not net=2", 1, 11);
        refused("many net=1=1", 1, 10);
        refused("many net=1)", 1, 10);
        refused("many (net=1", 1, 11);
        refused("many (net=1))", 1, 12);
        refused("many ()", 1, 6);
        refused("many not", 1, 8);
        refused("many net=10000", 2, 9);
        refused("many 10000=net", 2, 5);
        refused("many net=99999999999999999999", 2, 9);
        refused("many net!1", 1, 8);
        refused("many net=-1", 1, 9);
        refused("many net=\u00ff", 1, 9);
        refused("many net=(", 1, 9);
        refused("many ((((((( net=1", 3, 11);
        refused("many not not not not not not not net=1", 3, 29);
        refused("many not(not(not((net=1))))", 3, 17);
        refused("many ((((((net=1 (", 1, 17);
        refused("many ((((((net=1) and not not net=1)))))", 3, 26);
        GlitchCourt x = lamp();
        Due.query(x, "many ((((((net=");
        asked(x, "many ((((((net=1))))))", 1);
        Due.query(x, "many net=");
        Due.equal("44 empty after an error", Due.answer(() -> x.query(1)), ILLEGAL);
    }

    private static void refused(String text, int code, int position) {
        GlitchCourt x = lamp();
        Due.equal("44 " + text, Due.query(x, text), HIDDEN - code);
        Due.equal("4 position in " + text, x.errorPosition(), position);
    }
}
