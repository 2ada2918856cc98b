import java.util.ArrayList;
import java.util.List;

/**
 * A keeper in use, with a text, pins that stand and that have fallen, hits, readings, remembered
 * states, one slot filled and one empty, of which all is known that a call could change. It can be
 * looked through once, which ends it (and takes it near to its 512 calls).
 */
final class Known {
    interface Asked {
        long of(FoucaultKeeper keeper);
    }

    /** 15 minutes in a turn, without a rest; the pins stand at 60 and 120. */
    private static final String TEXT = "F+90060009000p001p002";

    static final int PINS = 3;
    static final int READINGS = 2;

    private final FoucaultKeeper keeper = Check.loaded(TEXT);
    private final String loaded = Check.look(keeper);
    private final List<String> remembered = new ArrayList<>();
    private final String saved;
    private final String present;

    private Known() {
        act(k -> k.swing(5));
        act(k -> k.read());
        keeper.save(0);
        saved = Check.look(keeper);
        act(k -> k.addPin(140));
        act(k -> k.swing(4));
        act(k -> k.read());
        present = Check.look(keeper);
    }

    private void act(Asked action) {
        remembered.add(Check.look(keeper));
        action.of(keeper);
    }

    /** The call must throw exactly this, and leave everything as it was. */
    static void refuses(Check check, String call, Class<? extends RuntimeException> kind, Asked made) {
        Known known = new Known();
        check.due(call, Check.answer(() -> made.of(known.keeper)), "throws " + kind.getSimpleName());
        known.isAsItWas(check, " behind " + call);
    }

    /** The call must answer this, and leave everything as it was. */
    static void answers(Check check, String call, long due, Asked made) {
        Known known = new Known();
        check.due(call, Check.answer(() -> made.of(known.keeper)), Long.toString(due));
        known.isAsItWas(check, " behind " + call);
    }

    private void isAsItWas(Check check, String when) {
        check.due("the state" + when, Check.look(keeper), present);
        for (int i = remembered.size() - 1; i >= 0; i--) {
            check.due("undo" + when, Check.answer(keeper::undo), Integer.toString(i));
            check.due("the state remembered" + when, Check.look(keeper), remembered.get(i));
        }
        check.due("one undo more" + when, Check.answer(keeper::undo), "throws IllegalStateException");
        check.due("restore(0)" + when, Check.answer(() -> keeper.restore(0)), "5");
        check.due("the state saved" + when, Check.look(keeper), saved);
        check.due("restore(1)" + when, Check.answer(() -> keeper.restore(1)), "throws IllegalStateException");
        check.due("load" + when, Check.answer(keeper::load), "2");
        check.due("the text loaded" + when, Check.look(keeper), loaded);
        check.due("clearText" + when, Check.answer(keeper::clearText), Integer.toString(TEXT.length()));
    }
}
