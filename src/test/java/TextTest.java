/** Promises 2 to 5: the text. */
public final class TextTest {
    private static final String PLAIN = "F+50240055000";

    public static void main(String[] args) {
        Check check = new Check();
        promise2(check);
        promise3(check);
        promise4(check);
        promise4Pins(check);
        promise5(check);
        promise5Refused(check);
        check.end();
    }

    private static void promise2(Check check) {
        FoucaultKeeper keeper = new FoucaultKeeper();
        check.refused(keeper, "append(-1)", IllegalArgumentException.class, () -> keeper.append(-1));
        check.refused(keeper, "append(256)", IllegalArgumentException.class, () -> keeper.append(256));
        check.due("append(0)", keeper.append(0), 1);
        check.due("append(255)", keeper.append(255), 2);
        for (int length = 3; length <= 100; length++) {
            check.due("append to " + length, keeper.append('F'), length);
        }
        check.refused(keeper, "append to 101", IllegalStateException.class, () -> keeper.append('F'));
        check.refused(keeper, "append(256) to 101", IllegalArgumentException.class, () -> keeper.append(256));
        check.due("the length behind them", keeper.clearText(), 100);
    }

    private static void promise3(Check check) {
        FoucaultKeeper keeper = new FoucaultKeeper();
        Check.write(keeper, PLAIN);
        keeper.push(10);
        check.due("clearText", keeper.clearText(), 13);
        check.due("clearText again", keeper.clearText(), 0);
        check.due("the empty text", keeper.errorPosition(), 0);
        check.due("append behind clearText", keeper.append('F'), 1);
        check.due("clearText is no action", keeper.undo(), 0);
        check.due("undo leaves the text", keeper.clearText(), 1);
    }

    private static int error(String text) {
        FoucaultKeeper keeper = new FoucaultKeeper();
        Check.write(keeper, text);
        return keeper.errorPosition();
    }

    private static void promise4(Check check) {
        for (int length = 0; length < PLAIN.length(); length++) {
            check.due("too short by " + (13 - length), error(PLAIN.substring(0, length)), length);
            for (char wrong : new char[] {' ', 'f', '/', ':', (char) 0, (char) 255, 'p'}) {
                String text = PLAIN.substring(0, length) + wrong + PLAIN.substring(length + 1);
                check.due("a wrong sign at " + length, error(text), length);
            }
        }
        check.due("a plain text", error(PLAIN), -9);
        check.due("+00", error("F+00240055000"), -9);
        check.due("-00", error("F-00240055000"), -9);
        check.due("-90", error("F-90060000000"), -9);
        check.due("+90", error("F+90900999999"), -9);
        check.due("+91", error("F+91240055000"), 3);
        check.due("+89", error("F+89240055000"), -9);
        check.due("F 50", error("F 50240055000"), 1);
        check.due("059 turns", error("F+50059055000"), 5);
        check.due("060 turns", error("F+50060055000"), -9);
        check.due("099 turns", error("F+50099055000"), -9);
        check.due("000 turns", error("F+50000055000"), 5);
        check.due("899 turns", error("F+50899055000"), -9);
        check.due("901 turns", error("F+50901055000"), 6);
        check.due("910 turns", error("F+50910055000"), 5);
        check.due("a sign behind", error(PLAIN + "x"), 13);
        check.due("a digit behind", error(PLAIN + "0"), 13);
        check.due("the first error counts", error("F+9x05xp"), 3);
    }

    private static void promise4Pins(Check check) {
        check.due("a pin", error(PLAIN + "p000"), -9);
        check.due("p", error(PLAIN + "p"), 14);
        check.due("p0", error(PLAIN + "p0"), 15);
        check.due("p00", error(PLAIN + "p00"), 16);
        check.due("P000", error(PLAIN + "P000"), 13);
        check.due("p200", error(PLAIN + "p200"), 14);
        check.due("p180", error(PLAIN + "p180"), 15);
        check.due("p179", error(PLAIN + "p179"), -9);
        check.due("p17x", error(PLAIN + "p17x"), 16);
        check.due("p 17", error(PLAIN + "p 17"), 14);
        check.due("the same place", error(PLAIN + "p012p012"), 20);
        check.due("the same place, later", error(PLAIN + "p012p013p179p012"), 28);
        check.due("another place", error(PLAIN + "p012p013"), -9);
        check.due("a blank between", error(PLAIN + "p012 p013"), 17);
        check.due("all ten with p00 used up", error(PLAIN + pins(0, 10) + "p00"), 55);
        check.due("nine with p00", error(PLAIN + pins(0, 9) + "p009"), -9);
        check.due("nine with p00, one again", error(PLAIN + pins(0, 9) + "p008"), 52);
        check.due("all ten with p17 used up", error(PLAIN + pins(170, 10) + "p170"), 55);
        check.due("all ten with p17, then p16", error(PLAIN + pins(170, 10) + "p169"), -9);
        check.due("20 pins", error(PLAIN + pins(100, 20)), -9);
        check.due("20 pins and a p", error(PLAIN + pins(100, 20) + "p"), 93);
        check.due("20 pins and one more", error(PLAIN + pins(100, 20) + "p000"), 93);
        check.due("20 pins and 7 signs", error(PLAIN + pins(100, 20) + "0000000"), 93);
    }

    private static String pins(int first, int count) {
        StringBuilder text = new StringBuilder();
        for (int i = 0; i < count; i++) {
            text.append(String.format("p%03d", first + i));
        }
        return text.toString();
    }

    private static void promise5(Check check) {
        FoucaultKeeper keeper = new FoucaultKeeper();
        keeper.set(3, 1);
        keeper.set(4, 9);
        keeper.addPin(2);
        keeper.addPin(7);
        keeper.swing(3);
        keeper.read();
        keeper.save(0);
        keeper.save(1);
        Check.write(keeper, "F-31071079002p179p000");
        check.due("load", keeper.load(), 2);
        int[] due = {-31, 71, 7, 4000, 0, 0, 0, 9002, 0, 2, 2, 0, 0};
        for (int what = 0; what <= 12; what++) {
            check.due("loaded: about(" + what + ")", keeper.about(what), due[what]);
        }
        check.due("loaded: pin(0, 0)", keeper.pin(0, 0), 10740);
        check.due("loaded: pin(1, 0)", keeper.pin(1, 0), 0);
        check.due("loaded: hit(0, 0)", keeper.hit(0, 0), -9);
        check.refused(keeper, "loaded: undo", IllegalStateException.class, keeper::undo);
        check.refused(keeper, "loaded: restore(0)", IllegalStateException.class, () -> keeper.restore(0));
        check.refused(keeper, "loaded: restore(1)", IllegalStateException.class, () -> keeper.restore(1));
        check.due("load again", keeper.load(), 2);
        check.due("load keeps the text", keeper.clearText(), 21);
        check.due("-00", Check.loaded("F-00240055000").about(0), 0);
        check.due("+90", Check.loaded("F+90240055000").about(0), 90);
        check.due("900 turns", Check.loaded("F+90900055000").about(1), 900);
        check.due("20 pins", Check.loaded(PLAIN + pins(3, 20)).about(9), 20);
        check.due("the last of 20 pins", Check.loaded(PLAIN + pins(3, 20)).pin(19, 0), 60 * 22);
    }

    private static void promise5Refused(Check check) {
        FoucaultKeeper keeper = new FoucaultKeeper();
        check.refused(keeper, "load of nothing", IllegalStateException.class, keeper::load);
        keeper.addPin(4);
        keeper.save(1);
        keeper.swing(9);
        Check.write(keeper, PLAIN + "p");
        check.refused(keeper, "load of half a pin", IllegalStateException.class, keeper::load);
        check.due("the text is kept", keeper.clearText(), 14);
        check.due("the remembered states are kept", keeper.undo(), 1);
        check.due("the slot is kept", keeper.restore(1), 0);
    }
}
