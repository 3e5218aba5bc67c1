import java.util.ArrayDeque;
import java.util.Deque;
import java.util.function.Consumer;

/** The edges of the promises 40 to 43, of section 7, and of the 512 calls of an object. */
public final class UndoEdgeTest {
    private static final int NONE = -1;

    public static void main(String[] args) {
        tenMostRecent();
        turningRound();
        eachOperation();
        allTogether();
        changesNothing();
        notRecorded();
        twentyDisputes();
        snapshots();
        snapshotClearsHistory();
        snapshotKept();
        snapshotOfDisputes();
        discarded();
        manyCalls();
        Due.close("UndoEdgeTest");
    }

    /** After any number of operations the ten most recent ones can be undone, and no more. */
    private static void tenMostRecent() {
        for (int made = 0; made <= 25; made++) {
            GlitchCourt x = new GlitchCourt();
            for (int i = 1; i <= made; i++) {
                Due.equal("36 deposit " + i, x.deposit(0, i), i * (i + 1) / 2);
                Due.equal("40 after " + i, x.undoCount(), Math.min(i, 10));
            }
            int kept = Math.min(made, 10);
            for (int left = kept - 1; left >= 0; left--) {
                Due.equal("41 of " + made + " there are left", x.undo(), left);
                Due.equal("40 of " + made, x.undoCount(), left);
                int before = made - kept + left;
                Due.equal("41 the purse before", x.size(7), before * (before + 1) / 2);
            }
            Due.equal("41 nothing left of " + made, x.undo(), NONE);
            Due.equal("40 none", x.undoCount(), 0);
            Due.equal("41 nothing changed", x.size(7), (made - kept) * (made - kept + 1) / 2);
            x.deposit(0, 5);
            Due.equal("41 and anew", x.undo(), 0);
        }
    }

    /** Operations and undoing by turns, the history going round several times. */
    private static void turningRound() {
        GlitchCourt x = new GlitchCourt();
        Deque<Integer> before = new ArrayDeque<>();
        int purse = 0;
        for (int step = 1; step <= 120; step++) {
            if (step * 7 % 12 < 8) {
                before.push(purse);
                purse += step;
                Due.equal("36 step " + step, x.deposit(1, step), purse);
                if (before.size() > 10) {
                    before.removeLast();
                }
            } else {
                boolean any = !before.isEmpty();
                purse = any ? before.pop() : purse;
                Due.equal("41 step " + step, x.undo(), any ? before.size() : NONE);
            }
            Due.equal("5 purse at step " + step, x.size(8), purse);
            Due.equal("40 at step " + step, x.undoCount(), before.size());
        }
        while (!before.isEmpty()) {
            purse = before.pop();
            x.undo();
            Due.equal("41 back", x.size(8), purse);
        }
        Due.equal("41 at the end", x.undo(), NONE);
    }

    private static void undone(String what, Consumer<GlitchCourt> operation) {
        GlitchCourt x = Rich.paying();
        operation.accept(x);
        Due.equal("40 behind " + what, x.undoCount(), 5);
        Due.equal("41 " + what, x.undo(), 4);
        Twins.same("41 " + what + " undone", Picture.of(x), Picture.of(Rich.paying()));
    }

    /** Undoing brings everything back that the operation changed. */
    private static void eachOperation() {
        undone("open", x -> x.open(0, 3, 0, true));
        undone("judge", x -> x.judge(0));
        undone("appeal", x -> x.appeal(1));
        undone("accept", x -> x.accept(1));
        undone("replay", x -> x.replay(2, 3, 14));
        undone("replay of the horizon", x -> x.replay(3, 20, 20));
        for (int which = 0; which < 3; which++) {
            int w = which;
            undone("setDelay " + w, x -> x.setDelay(2, w, 9));
            undone("setDelay of net 3 " + w, x -> x.setDelay(3, w, 9));
            undone("the same delay " + w, x -> x.setDelay(2, w, w == 2 ? 1 : 3));
        }
        undone("toggle", x -> x.toggle(0, 0));
        undone("toggle at the horizon", x -> x.toggle(0, 20));
        undone("toggle of input 1", x -> x.toggle(1, 3));
        undone("deposit to 0", x -> x.deposit(0, 99999));
        undone("deposit to 1", x -> x.deposit(1, 1));
        undone("deposit to 2", x -> x.deposit(2, 0));
        undone("setLimit", x -> x.setLimit(20));
        undone("the same limit", x -> x.setLimit(5));
    }

    private static void sixOperations(GlitchCourt x) {
        Due.equal("29 open", x.open(1, 3, 0, false), 5);
        Due.equal("30 judge", x.judge(5), 0);
        Due.equal("31 appeal", x.appeal(5), 0);
        Due.equal("32 accept", x.accept(1), 2);
        Due.equal("35 toggle", x.toggle(0, 9), 1);
        Due.equal("34 setDelay", x.setDelay(3, 1, 1), 3);
    }

    private static void allTogether() {
        GlitchCourt x = Rich.paying();
        sixOperations(x);
        Due.equal("40 just ten", x.undoCount(), 10);
        for (int left = 9; left >= 4; left--) {
            Due.equal("41 left", x.undo(), left);
        }
        Twins.same("41 all six undone", Picture.of(x), Picture.of(Rich.paying()));
    }

    /** What changes nothing is recorded, too. */
    private static void changesNothing() {
        GlitchCourt x = Due.court("bench 20 9 0 0;input 0 2 5;gate same 0 9 8 7;");
        x.deposit(0, 0);
        x.setLimit(9);
        x.setDelay(1, 0, 9);
        x.setDelay(1, 1, 8);
        x.setDelay(1, 2, 7);
        Due.equal("40 five", x.undoCount(), 5);
        x.replay(1, 0, 1);
        Due.equal("33 none new", x.replay(1, 0, 1), 0);
        Due.equal("40 seven", x.undoCount(), 7);
        x.undo();
        Due.equal("41 still settled", x.gate(1, 7), 2);
        x.undo();
        Due.equal("41 settled no more", x.gate(1, 7), 0);
        GlitchCourt y = Due.court("bench 20 9 0 0;input 0 2 5;gate same 0 9 9 1;");
        y.open(0, 1, 0, true);
        y.judge(0);
        y.replay(1, 3, 5);
        Due.equal("32 none new", y.accept(0), 0);
        Due.equal("40 four", y.undoCount(), 4);
        y.undo();
        Due.equal("41 judged again", y.dispute(0, 6), 1);
    }

    /** Refused calls, questions, texts and snapshots are no operations. */
    private static void notRecorded() {
        GlitchCourt x = Rich.fed();
        x.open(0, 2, 0, true);
        x.judge(0);
        x.judge(1);
        x.appeal(1);
        x.accept(0);
        x.replay(2, 0, 20);
        Due.answer(() -> x.toggle(0, 21));
        Due.answer(() -> x.setDelay(2, 0, 10));
        Due.answer(() -> x.deposit(0, -1));
        Due.answer(() -> x.setLimit(21));
        x.bestReplay();
        x.gain(2, 0, 20);
        x.format(2, 0);
        x.saveSnapshot();
        x.query(20);
        Due.load(x, "bench 3");
        Due.equal("40 three as before", x.undoCount(), 3);
        Due.equal("41 the replay", x.undo(), 2);
        Due.equal("41 its time is settled no more", x.stateAt(2, 0), 0);
    }

    private static void twentyDisputes() {
        GlitchCourt x = Rich.twenty();
        Due.equal("35 all open and judged ones", x.toggle(0, 60), 20);
        Due.equal("41 undone", x.undo(), 9);
        Due.equal("22 open again", x.disputes(0), 8);
        Due.equal("22 judged again", x.disputes(1), 12);
        for (int left = 8; left >= 0; left--) {
            x.undo();
        }
        Due.equal("22 nine less of the judged ones", x.disputes(1), 3);
        GlitchCourt y = new GlitchCourt();
        Due.load(y, "bench 60 1 0 0;input 0 2 3 10 11 20 21 30 31 40 41;gate same 0 9 9 1;");
        for (int i = 0; i < 5; i++) {
            y.open(i % 2, 1, i, true);
        }
        y.undo();
        y.undo();
        Due.equal("41 three left", y.size(6), 3);
        Due.equal("29 the fourth anew", y.open(1, 1, 4, false), 3);
        int[] due = {1, 41, 41, 1, 1, 0, 0, NONE, NONE, 0};
        for (int what = 0; what < 10; what++) {
            Due.equal("21 the fourth " + what, y.dispute(3, what), due[what]);
        }
    }

    // Promises 42 and 43

    private static void snapshots() {
        GlitchCourt x = Rich.paying();
        x.saveSnapshot();
        sixOperations(x);
        x.setLimit(1);
        Due.equal("43 there is one", x.restoreSnapshot(), true);
        GlitchCourt y = Rich.paying();
        y.saveSnapshot();
        y.restoreSnapshot();
        Twins.same("43 everything is back", Picture.of(x), Picture.of(y));
        GlitchCourt z = Rich.paying();
        z.saveSnapshot();
        z.undo();
        z.undo();
        z.undo();
        Due.equal("43 behind undo", z.restoreSnapshot(), true);
        GlitchCourt w = Rich.paying();
        w.saveSnapshot();
        w.restoreSnapshot();
        Twins.same("43 everything is back behind undo", Picture.of(z), Picture.of(w));
    }

    private static void snapshotClearsHistory() {
        GlitchCourt x = Rich.paying();
        x.saveSnapshot();
        Due.equal("42 the history stays", x.undoCount(), 4);
        x.restoreSnapshot();
        Due.equal("43 the history is cleared", x.undoCount(), 0);
        Due.equal("43 nothing to undo", x.undo(), NONE);
        for (int i = 1; i <= 12; i++) {
            x.deposit(1, 1);
            Due.equal("40 anew", x.undoCount(), Math.min(i, 10));
        }
        for (int left = 9; left >= 0; left--) {
            Due.equal("41 anew", x.undo(), left);
        }
        Due.equal("41 two deposits stay", x.size(8), 9);
        Due.equal("41 nothing more", x.undo(), NONE);
    }

    private static void snapshotKept() {
        GlitchCourt x = new GlitchCourt();
        Due.equal("43 none yet", x.restoreSnapshot(), false);
        x.saveSnapshot();
        for (int i = 1; i <= 3; i++) {
            x.deposit(0, i);
            Due.equal("43 again", x.restoreSnapshot(), true);
            Due.equal("43 the same each time", x.size(7), 0);
        }
        x.deposit(0, 7);
        x.saveSnapshot();
        x.deposit(0, 8);
        x.undo();
        x.undo();
        Due.equal("41 undone to before it", x.size(7), 0);
        Due.equal("43 the later one", x.restoreSnapshot(), true);
        Due.equal("42 it has replaced the earlier one", x.size(7), 7);
    }

    /** From few disputes to many and back. */
    private static void snapshotOfDisputes() {
        GlitchCourt x = Rich.twenty();
        x.saveSnapshot();
        x.toggle(0, 60);
        Due.equal("22 all dropped", x.disputes(4), 20);
        x.restoreSnapshot();
        Due.equal("22 open ones are back", x.disputes(0), 8);
        Due.equal("22 judged ones are back", x.disputes(1), 12);
        Due.equal("21 the last one is back", x.dispute(19, 1), 41);
        GlitchCourt z = Due.court("bench 20 9 0 0;input 0 2 5 7 9;gate same 0 9 9 1;");
        z.open(1, 1, 2, false);
        z.saveSnapshot();
        z.undo();
        z.open(0, 1, 0, true);
        z.judge(0);
        z.restoreSnapshot();
        int[] due = {1, 8, 9, 1, 1, 0, 0, NONE, NONE, 0};
        for (int what = 0; what < 10; what++) {
            Due.equal("43 the dispute that was there " + what, z.dispute(0, what), due[what]);
        }
        GlitchCourt y = Due.court("bench 20 9 0 0;input 0 2 5 7 9;gate same 0 9 9 1;");
        y.saveSnapshot();
        y.open(0, 1, 0, true);
        y.judge(0);
        y.restoreSnapshot();
        Due.equal("5 none again", y.size(6), 0);
        Due.noSuch("21 none to ask for", () -> y.dispute(0, 0));
        Due.equal("29 the first one anew", y.open(1, 1, 2, false), 0);
        Due.equal("21 open", y.dispute(0, 6), 0);
        Due.equal("21 no verdict", y.dispute(0, 7), NONE);
    }

    /** A good text discards the history and the snapshot, a bad one does not. */
    private static void discarded() {
        GlitchCourt x = Rich.court();
        Due.load(x, Rich.TEXT + ";");
        Due.equal("3 the history stays", x.undoCount(), 3);
        Due.equal("3 the snapshot stays", x.restoreSnapshot(), true);
        x.deposit(0, 1);
        Due.equal("3 a good text", Due.load(x, Rich.TEXT), 4);
        Due.equal("3 no history", x.undoCount(), 0);
        Due.equal("3 nothing to undo", x.undo(), NONE);
        Due.equal("3 no snapshot", x.restoreSnapshot(), false);
        x.deposit(0, 1);
        Due.equal("43 without one the history stays", x.restoreSnapshot(), false);
        Due.equal("41 undone", x.undo(), 0);
    }

    /** All 512 calls of an object answer what is due. */
    private static void manyCalls() {
        GlitchCourt x = new GlitchCourt();
        for (int i = 1; i <= 511; i++) {
            Due.equal("36 call " + i, x.deposit(2, 3), 3 * i);
        }
        Due.equal("41 the 512th call", x.undo(), 9);
        GlitchCourt y = new GlitchCourt();
        for (int i = 0; i < 128; i++) {
            Due.equal("2 feed", y.feed(0x62656e63, 0x68342031, 0x20312031, 0x3b696e70, 0x7574303b), 20);
            Due.equal("3 load", y.load(20), 1);
            Due.equal("2 feed again", y.feed(0x6d616e79, 0x206e6574, 0x3d302020, 0x20202020, 0x20202020), 20);
            Due.equal("44 query", y.query(20), 1);
        }
    }
}
