/** A court in which there is something of everything. */
final class Rich {
    /**
     * Net 2 is shown 1 at 3, 4, 7, 8 and from 11 on (four pulses) and dear 1 from 13 on; net 3 is shown 0 at 3 and 4
     * and dear 1 throughout.
     */
    static final String TEXT = "bench 20 4 1 2;input 0 2 4 6 8 10;input 0 2 4;gate same 0 3 3 1;gate not 1 3 3 1;"
            + "purses 7 9 4;";

    private Rich() {
    }

    /**
     * The disputes 0 to 4 are open, judged, accepted, appealed and dropped. The purses are 1, 7 and 12. Three
     * operations can be undone, there is a snapshot, a formatted text and an error position; the buffer is empty.
     */
    static GlitchCourt court() {
        GlitchCourt x = Due.court(TEXT);
        for (int index = 0; index < 4; index++) {
            x.open(index % 2, 2, index, index % 2 == 0);
        }
        x.open(1, 3, 0, true);
        x.judge(1);
        x.judge(3);
        x.appeal(3);
        x.judge(2);
        x.accept(2);
        x.toggle(1, 20);
        // This clears the undo history, so that there is room in it.
        x.saveSnapshot();
        x.restoreSnapshot();
        x.setLimit(5);
        x.deposit(2, 1);
        x.replay(2, 0, 0);
        x.format(2, 0);
        Due.query(x, "many net==");
        return x;
    }

    /** With 20 bytes in the buffer. */
    static GlitchCourt fed() {
        GlitchCourt x = court();
        Due.feed(x, "bench4 1 1 1;input0;");
        return x;
    }

    /** With 600 bytes in the buffer. */
    static GlitchCourt full() {
        GlitchCourt x = court();
        Due.feed(x, "bench4 1 1 1;input0;" + " ".repeat(579) + ";");
        return x;
    }

    /** With 60 in the purse of party 0, so that it can pay what it loses. */
    static GlitchCourt paying() {
        GlitchCourt x = fed();
        x.deposit(0, 59);
        return x;
    }

    /** Twenty disputes, most of them judged, of a gate with 22 pulses. */
    static GlitchCourt twenty() {
        StringBuilder text = new StringBuilder("bench 60 2 0 0;input 0");
        for (int t = 2; t <= 46; t += 2) {
            text.append(' ').append(t);
        }
        GlitchCourt x = Due.court(text.append(";gate same 0 9 9 1;").toString());
        for (int index = 0; index < 20; index++) {
            x.open(index % 2, 1, index, index % 3 == 0);
        }
        for (int index = 0; index < 12; index++) {
            x.judge(index);
        }
        return x;
    }
}
