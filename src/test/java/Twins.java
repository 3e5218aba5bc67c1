import java.util.List;
import java.util.concurrent.Callable;
import java.util.function.Function;

/** Courts made by the same calls: what a further call has changed in one of them shows in their pictures. */
final class Twins {
    /** Makes a court, the same one each time. */
    interface Maker {
        GlitchCourt make();
    }

    private Twins() {
    }

    /** The call answers what is due and changes nothing. */
    static void refused(String what, Maker maker, Function<GlitchCourt, Object> call, Object due) {
        GlitchCourt called = maker.make();
        Callable<Object> answering = () -> call.apply(called);
        Due.equal(what, Due.answer(answering), due);
        same(what + " changes nothing", Picture.of(called), Picture.of(maker.make()));
    }

    static void noSuch(String what, Maker maker, Function<GlitchCourt, Object> call) {
        refused(what, maker, call, "throws.NoSuchElementException");
    }

    static void illegal(String what, Maker maker, Function<GlitchCourt, Object> call) {
        refused(what, maker, call, "throws.IllegalArgumentException");
    }

    /** Tells the first line in which two pictures differ. */
    static void same(String what, List<String> got, List<String> want) {
        int line = 0;
        while (line < got.size() && line < want.size() && got.get(line).equals(want.get(line))) {
            line++;
        }
        Due.equal(what, lineOf(got, line), lineOf(want, line));
    }

    private static String lineOf(List<String> picture, int line) {
        return line < picture.size() ? picture.get(line) : "the end of the picture";
    }
}
