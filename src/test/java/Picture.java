import java.util.ArrayList;
import java.util.List;
import java.util.concurrent.Callable;

/**
 * All that can be learned of a court, as lines: what its questions answer, then, taking it apart, what undoing, restoring
 * and the bytes in its buffer bring. So two courts with the same picture are in the same state.
 */
final class Picture {
    /** Of the 512 calls of an object these are left to the one that made the court. */
    private static final int LEFT_TO_THE_MAKER = 70;

    private final GlitchCourt court;
    private final List<String> lines = new ArrayList<>();
    private int calls = 0;

    private Picture(GlitchCourt court) {
        this.court = court;
    }

    static List<String> of(GlitchCourt court) {
        Picture picture = new Picture(court);
        picture.tell("errorPosition", court::errorPosition);
        picture.afterLoadOrQuery();
        return picture.lines;
    }

    /** As of, but without the error position. */
    static List<String> butForTheErrorPosition(GlitchCourt court) {
        Picture picture = new Picture(court);
        picture.afterLoadOrQuery();
        return picture.lines;
    }

    private void afterLoadOrQuery() {
        formatted();
        sizes();
        nets();
        times();
        disputes();
        history();
        tell("restoreSnapshot", court::restoreSnapshot);
        brief();
        buffer();
        Due.equal("calls of a picture in bounds", calls <= 512 - LEFT_TO_THE_MAKER, true);
    }

    private Object tell(String name, Callable<?> call) {
        calls++;
        Object answer = Due.answer(call);
        lines.add(name + " is " + answer);
        return answer;
    }

    private int number(String name, Callable<Integer> call) {
        return (Integer) tell(name, call);
    }

    private void formatted() {
        int index = 0;
        while (number("formattedByte " + index, byteAt(index)) != GlitchCourt.NONE) {
            index++;
        }
    }

    private Callable<Integer> byteAt(int index) {
        return () -> court.formattedByte(index);
    }

    private void sizes() {
        for (int what = 0; what < 10; what++) {
            int w = what;
            tell("size " + w, () -> court.size(w));
        }
    }

    private void nets() {
        int inputs = court.size(0);
        int nets = inputs + court.size(1);
        calls += 2;
        for (int i = 0; i < 3 * nets; i++) {
            int net = i / 3;
            int kind = i % 3;
            tell("wave " + net + " " + kind, () -> court.wave(net, kind));
        }
        for (int n = 0; n < nets; n++) {
            int net = n;
            tell("touches " + net, () -> court.touches(net));
            tell("longest " + net, () -> court.longest(net));
        }
        for (int i = 10 * inputs; i < 10 * nets; i++) {
            int net = i / 10;
            int what = i % 10;
            tell("gate " + net + " " + what, () -> court.gate(net, what));
        }
    }

    private void times() {
        int inputs = court.size(0);
        int nets = inputs + court.size(1);
        int horizon = court.size(2);
        calls += 3;
        for (int n = inputs; n < nets; n++) {
            for (int t = 0; t <= horizon; t++) {
                int net = n;
                int time = t;
                tell("stateAt " + net + " " + time, () -> court.stateAt(net, time));
            }
        }
    }

    /** All of the first six disputes, the states of the others. */
    private void disputes() {
        int count = court.size(6);
        calls++;
        for (int i = 0; i < 10 * Math.min(count, 6); i++) {
            int dispute = i / 10;
            int what = i % 10;
            tell("dispute " + dispute + " " + what, () -> court.dispute(dispute, what));
        }
        for (int i = 6; i < count; i++) {
            int dispute = i;
            tell("dispute " + dispute + " 6", () -> court.dispute(dispute, 6));
        }
    }

    private void history() {
        tell("undoCount", court::undoCount);
        while (number("undo", court::undo) != GlitchCourt.NONE) {
            brief();
        }
    }

    /** What any operation changes leaves its trace here. */
    private void brief() {
        int inputs = court.size(0);
        int nets = inputs + court.size(1);
        calls += 2;
        for (int what : new int[] {2, 3, 6, 7, 8, 9}) {
            tell("size " + what, () -> court.size(what));
        }
        for (int n = 0; n < nets; n++) {
            int net = n;
            tell("wave " + net, () -> court.wave(net, 0));
        }
        for (int i = 0; i < 5; i++) {
            int state = i;
            tell("disputes " + state, () -> court.disputes(state));
        }
        tell("settledShare", court::settledShare);
        tell("misjudged", court::misjudged);
        tell("allWrong", court::allWrong);
    }

    private void buffer() {
        int fed = number("feed", () -> court.feed(0, 0, 0, 0, 0));
        tell("load", () -> court.load(fed == GlitchCourt.NONE ? 600 : fed - 20));
        tell("errorPosition", court::errorPosition);
        brief();
    }
}
