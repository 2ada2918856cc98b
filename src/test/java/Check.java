/** Counts answers that are not as due, and tells them. */
final class Check {
    interface Call {
        long answer();
    }

    private int wrong = 0;

    void due(String call, long got, long want) {
        if (got != want) {
            tell(call + " answered " + got + ", due is " + want);
        }
    }

    void due(String call, String got, String want) {
        if (!got.equals(want)) {
            tell(call + " answered " + got + ", due is " + want);
        }
    }

    /** The call must throw exactly this, and leave everything that can be asked as it was. */
    void refused(FoucaultKeeper keeper, String call, Class<? extends RuntimeException> kind, Call made) {
        String before = look(keeper);
        due(call, answer(made), "throws " + kind.getSimpleName());
        due("the state behind " + call, look(keeper), before);
    }

    /** The call must leave everything that can be asked as it was. */
    void changesNothing(FoucaultKeeper keeper, String call, Call made) {
        String before = look(keeper);
        answer(made);
        due("the state behind " + call, look(keeper), before);
    }

    static String answer(Call made) {
        try {
            return Long.toString(made.answer());
        } catch (RuntimeException e) {
            return "throws " + e.getClass().getSimpleName();
        }
    }

    /** All that the keeper tells without being changed. */
    static String look(FoucaultKeeper keeper) {
        StringBuilder seen = new StringBuilder("about");
        int[] numbers = new int[13];
        for (int what = 0; what <= 12; what++) {
            numbers[what] = keeper.about(what);
            seen.append(' ').append(numbers[what]);
        }
        for (int k = 0; k < numbers[9]; k++) {
            seen.append(" pin ").append(keeper.pin(k, 0)).append('/').append(keeper.pin(k, 1));
        }
        for (int j = 0; j < numbers[11]; j++) {
            seen.append(" hit ").append(keeper.hit(j, 0)).append('/').append(keeper.hit(j, 1))
                    .append('/').append(keeper.hit(j, 2));
        }
        for (int i = 0; i < numbers[12]; i++) {
            seen.append(" reading ").append(keeper.reading(i, 0)).append('/').append(keeper.reading(i, 1))
                    .append('/').append(keeper.reading(i, 2));
        }
        return seen.append(" text ").append(keeper.errorPosition()).toString();
    }

    static void write(FoucaultKeeper keeper, String text) {
        for (int i = 0; i < text.length(); i++) {
            keeper.append(text.charAt(i));
        }
    }

    static FoucaultKeeper loaded(String text) {
        FoucaultKeeper keeper = new FoucaultKeeper();
        write(keeper, text);
        keeper.load();
        return keeper;
    }

    int wrong() {
        return wrong;
    }

    void tell(String fault) {
        wrong++;
        System.out.println(fault);
    }

    void end() {
        if (wrong != 0) {
            System.out.println(wrong + " answers are not as due");
            System.exit(1);
        }
    }
}
