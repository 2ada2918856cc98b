/** The boundary cases of the section "Text" and of the promises 1 to 5. */
public final class TextEdgeTest {
    private static final Class<IllegalArgumentException> ARGUMENT = IllegalArgumentException.class;
    private static final Class<IllegalStateException> STATE = IllegalStateException.class;
    private static final Class<IndexOutOfBoundsException> INDEX = IndexOutOfBoundsException.class;
    private static final int NONE = FoucaultKeeper.NONE;
    private static final String PLAIN = "F+50240055000";

    public static void main(String[] args) {
        Sentences all = new Sentences();
        newObject(all);
        append(all);
        clearText(all);
        numbers(all);
        pins(all);
        errors(all);
        load(all);
        loadRefused(all);
        all.end();
    }

    private static int error(String text) {
        FoucaultKeeper keeper = new FoucaultKeeper();
        Check.write(keeper, text);
        return keeper.errorPosition();
    }

    private static String pins(int first, int count) {
        StringBuilder text = new StringBuilder();
        for (int i = 0; i < count; i++) {
            text.append(String.format("p%03d", first + i));
        }
        return text.toString();
    }

    private static void newObject(Sentences all) {
        all.holds("Promise 1", "Creates the pendulum that is described above, without pins and readings.", check -> {
            FoucaultKeeper keeper = new FoucaultKeeper();
            for (int what : new int[] {8, 9, 10, 11, 12}) {
                check.due("about(" + what + ")", keeper.about(what), 0);
            }
            check.refused(keeper, "pin(0, 0)", INDEX, () -> keeper.pin(0, 0));
            check.refused(keeper, "reading(0, 0)", INDEX, () -> keeper.reading(0, 0));
            check.due("hit(0, 0)", keeper.hit(0, 0), NONE);
            check.due("next()", keeper.next(), NONE);
            check.refused(keeper, "undo", STATE, keeper::undo);
            check.refused(keeper, "restore(0)", STATE, () -> keeper.restore(0));
            check.refused(keeper, "restore(1)", STATE, () -> keeper.restore(1));
            check.refused(keeper, "load", STATE, keeper::load);
            check.due("clearText", keeper.clearText(), 0);
        });
    }

    private static void append(Sentences all) {
        String place = "Promise 2";
        all.holds(place, "`c`: character code, 0 to 255", check -> {
            FoucaultKeeper keeper = new FoucaultKeeper();
            check.due("append(0)", keeper.append(0), 1);
            check.due("append(255)", keeper.append(255), 2);
            check.due("append(1)", keeper.append(1), 3);
            check.due("append(254)", keeper.append(254), 4);
        });
        all.holds(place, "Throws `IllegalArgumentException` if c is out of range", check -> {
            for (int c : new int[] {-1, 256, 256 + 'F', 65536 + 'p', Integer.MAX_VALUE, Integer.MIN_VALUE}) {
                Known.refuses(check, "append(" + c + ")", ARGUMENT, k -> k.append(c));
            }
        });
        all.holds(place, "Returns the new length of the text.", check -> {
            FoucaultKeeper keeper = new FoucaultKeeper();
            for (int length = 1; length <= 100; length++) {
                check.due("append to " + length, keeper.append('F'), length);
            }
            keeper.clearText();
            check.due("append behind clearText", keeper.append('F'), 1);
        });
        all.holds(place, "Throws `IllegalStateException` if the text already has 100 characters", check -> {
            FoucaultKeeper keeper = new FoucaultKeeper();
            Check.write(keeper, PLAIN + pins(0, 20));
            for (int length = 94; length <= 100; length++) {
                check.due("append to " + length, keeper.append('x'), length);
            }
            check.refused(keeper, "append to 101", STATE, () -> keeper.append('x'));
            check.refused(keeper, "append to 101 again", STATE, () -> keeper.append('F'));
            check.due("the first error behind it", keeper.errorPosition(), 93);
            check.due("the length behind it", keeper.clearText(), 100);
            check.due("there is room again", keeper.append('F'), 1);
        });
    }

    private static void clearText(Sentences all) {
        String place = "Promise 3";
        all.holds(place, "Returns the previous length of the text.", check -> {
            FoucaultKeeper keeper = new FoucaultKeeper();
            check.due("an empty text", keeper.clearText(), 0);
            keeper.append('F');
            check.due("a text of one", keeper.clearText(), 1);
            for (int i = 0; i < 100; i++) {
                keeper.append('F');
            }
            check.due("a full text", keeper.clearText(), 100);
        });
        all.holds(place, "Empties the text buffer.", check -> {
            FoucaultKeeper keeper = new FoucaultKeeper();
            Check.write(keeper, PLAIN + "p001");
            keeper.clearText();
            check.due("clearText again", keeper.clearText(), 0);
            check.due("the error is at the end", keeper.errorPosition(), 0);
            check.refused(keeper, "load", STATE, keeper::load);
            Check.write(keeper, PLAIN + "p001");
            check.due("the same text again", keeper.load(), 1);
        });
    }

    private static void numbers(Sentences all) {
        String place = "Text";
        all.holds(place, "A text is the letter F", check -> {
            for (char c : new char[] {'E', 'G', 'f', ' ', '+', 0, 255, 'p', '5'}) {
                check.due("for F the code " + (int) c, error(c + PLAIN.substring(1)), 0);
            }
            check.due("F", error(PLAIN), NONE);
        });
        all.holds(place, "a sign, + or -", check -> {
            for (char c : new char[] {'*', ',', '.', '/', ' ', '5', 0, 255, 'F'}) {
                check.due("for the sign the code " + (int) c, error("F" + c + PLAIN.substring(2)), 1);
            }
            check.due("+", error("F+" + PLAIN.substring(2)), NONE);
            check.due("-", error("F-" + PLAIN.substring(2)), NONE);
        });
        all.holds(place, "two digits for the latitude (00 to 90)", check -> {
            for (int latitude = 0; latitude <= 99; latitude++) {
                // Only 90 begins with 9.
                int due = latitude <= 90 ? NONE : 3;
                String digits = String.format("%02d", latitude);
                check.due("latitude +" + digits, error("F+" + digits + "240055000"), due);
                check.due("latitude -" + digits, error("F-" + digits + "240055000"), due);
            }
        });
        all.holds(place, "three digits for the turns in an hour (060 to 900)", check -> {
            for (int turns = 0; turns <= 999; turns++) {
                // 060 to 099 are all that begin with 0, and 900 is all that begins with 9.
                int due = turns < 60 ? 5 : turns <= 900 ? NONE : turns <= 909 ? 6 : 5;
                String digits = String.format("%03d", turns);
                check.due("turns " + digits, error("F+50" + digits + "055000"), due);
            }
        });
        all.holds(place, "two for the drag (00 to 99)", check -> {
            for (int drag = 0; drag <= 99; drag++) {
                String digits = String.format("%02d", drag);
                check.due("drag " + digits, error("F+50240" + digits + "5000"), NONE);
            }
        });
        all.holds(place, "four for the height (0000 to 9999)", check -> {
            for (String height : new String[] {"0000", "0001", "0999", "1000", "9000", "9990", "9998", "9999"}) {
                check.due("height " + height, error("F+5024005" + height), NONE);
            }
        });
        all.holds(place, "two digits [..] three digits [a sign that is none, where one is due]", check -> {
            String text = PLAIN + "p012";
            for (int at : new int[] {2, 3, 4, 5, 6, 7, 8, 9, 10, 11, 12, 14, 15, 16}) {
                for (char c : new char[] {'/', ':', ' ', '+', '-', 'p', 0, 255}) {
                    String wrong = text.substring(0, at) + c + text.substring(at + 1);
                    check.due("the code " + (int) c + " at " + at, error(wrong), at);
                }
            }
        });
    }

    private static void pins(Sentences all) {
        String place = "Text";
        all.holds(place, "and up to 20 pins", check -> {
            for (int count = 0; count <= 20; count++) {
                check.due(count + " pins", error(PLAIN + pins(100, count)), NONE);
            }
            check.due("a 21st pin", error(PLAIN + pins(100, 21)), 93);
            check.due("a p behind 20 pins", error(PLAIN + pins(100, 20) + "p"), 93);
            check.due("a digit behind 20 pins", error(PLAIN + pins(100, 20) + "0"), 93);
        });
        all.holds(place, "each of them the letter p", check -> {
            for (char c : new char[] {'o', 'q', 'P', ' ', '0', 'F', 0, 255}) {
                check.due("for p the code " + (int) c, error(PLAIN + c + "012"), 13);
                check.due("for the 2nd p the code " + (int) c, error(PLAIN + "p011" + c + "012"), 17);
            }
        });
        all.holds(place, "three digits for its place in degrees (000 to 179;", check -> {
            for (int degrees = 0; degrees <= 999; degrees++) {
                // Nothing begins with 2 to 9, nor with 18 or 19.
                int due = degrees <= 179 ? NONE : degrees <= 199 ? 15 : 14;
                check.due("p" + degrees, error(PLAIN + String.format("p%03d", degrees)), due);
                check.due("2nd p" + degrees, error(PLAIN + "p005"
                        + String.format("p%03d", degrees == 5 ? 6 : degrees)), due == NONE ? NONE : due + 4);
            }
        });
        all.holds(place, "it is 60 times as many minutes)", check -> {
            FoucaultKeeper keeper = Check.loaded(PLAIN + "p000p001p179");
            check.due("p000", keeper.pin(0, 0), 0);
            check.due("p001", keeper.pin(1, 0), 60);
            check.due("p179", keeper.pin(2, 0), 10740);
        });
        all.holds(place, "a place of an earlier pin is not allowed, mostly told at its last digit;", check -> {
            check.due("the same as the one before", error(PLAIN + "p012p012"), 20);
            check.due("000 again", error(PLAIN + "p000p000"), 20);
            check.due("179 again", error(PLAIN + "p179p001p179"), 24);
            check.due("the 20th the same as the 1st", error(PLAIN + pins(5, 19) + "p005"), 92);
            check.due("the 20th the same as the 19th", error(PLAIN + pins(5, 19) + "p023"), 92);
            check.due("another last digit", error(PLAIN + "p012p013"), NONE);
            check.due("another first digit", error(PLAIN + "p012p112"), NONE);
            check.due("nine of ten that begin with 05", error(PLAIN + pins(50, 9) + "p059"), NONE);
        });
        all.holds(place, "a place of an earlier pin is not allowed, mostly [and when not: at its second digit]", check -> {
            check.due("all ten that begin with 00", error(PLAIN + pins(0, 10) + "p005"), 55);
            check.due("all ten that begin with 17", error(PLAIN + pins(170, 10) + "p170"), 55);
            check.due("all ten that begin with 17, cut off behind it", error(PLAIN + pins(170, 10) + "p17"), 55);
            check.due("all ten that begin with 17, cut off ahead of it", error(PLAIN + pins(170, 10) + "p1"), 55);
            check.due("all ten that begin with 17, and another", error(PLAIN + pins(170, 10) + "p16"), 56);
            check.due("nine that begin with 17, cut off", error(PLAIN + pins(170, 9) + "p17"), 52);
            check.due("nine that begin with 17, one again", error(PLAIN + pins(170, 9) + "p171"), 52);
        });
    }

    private static void errors(Sentences all) {
        String place = "Text";
        all.holds(place, "There are no blanks.", check -> {
            String text = PLAIN + "p001p002";
            for (int at = 0; at <= text.length(); at++) {
                check.due("a blank at " + at, error(text.substring(0, at) + ' ' + text.substring(at)), at);
            }
        });
        all.holds(place, "The error position is the index of the first character that these rules do not allow", check -> {
            check.due("errors at 0 and 1", error("fx50240055000"), 0);
            check.due("errors at 3 and 5", error("F+91000055000"), 3);
            check.due("errors at 5 and 14", error("F+50059055000p900"), 5);
            check.due("errors at 20 and 21", error(PLAIN + "p001p001x"), 20);
            check.due("an error at 12, and the text ends too soon", error("F+5024005500x"), 12);
            check.due("an error at 5, and the text ends too soon", error("F+5001"), 5);
        });
        all.holds(place, "(a digit is not allowed if no number that is allowed begins with it and those before it;", check -> {
            check.due("9 and 1", error("F+91"), 3);
            check.due("9 and 0", error("F+90"), 4);
            check.due("0 and 5", error("F+5005"), 5);
            check.due("0 and 6", error("F+5006"), 6);
            check.due("9 and 1", error("F+5091"), 5);
            check.due("9 and 0", error("F+5090"), 6);
            check.due("9, 0 and 1", error("F+50901"), 6);
            check.due("2", error(PLAIN + "p2"), 14);
            check.due("1", error(PLAIN + "p1"), 15);
            check.due("1 and 8", error(PLAIN + "p18"), 15);
            check.due("1 and 7", error(PLAIN + "p17"), 16);
        });
        all.holds(place, "+00 and -00 are both allowed);", check -> {
            check.due("+00", error("F+00240055000"), NONE);
            check.due("-00", error("F-00240055000"), NONE);
            check.due("-00, the latitude", Check.loaded("F-00240055000").about(0), 0);
            check.due("+00, the latitude", Check.loaded("F+00240055000").about(0), 0);
        });
        all.holds(place, "if the text ends too soon, it is the length of the text.", check -> {
            String text = PLAIN + "p001p179";
            for (int length = 0; length <= text.length(); length++) {
                boolean whole = length == 13 || length == 17 || length == 21;
                check.due("the first " + length, error(text.substring(0, length)), whole ? NONE : length);
            }
            check.due("half a 20th pin", error(PLAIN + pins(100, 19) + "p11"), 92);
        });
        all.holds("Promise 4", "NONE if it is a text as described above.", check -> {
            check.due("the least of all", error("F+00060000000"), NONE);
            check.due("the most of all", error("F-90900999999" + pins(160, 20)), NONE);
            Known.answers(check, "errorPosition()", NONE, FoucaultKeeper::errorPosition);
        });
    }

    private static void load(Sentences all) {
        String place = "Promise 5";
        all.holds(place, "Makes everything as at first, but the latitude, the turns in an hour, the drag, the height and the pins",
                check -> {
                    FoucaultKeeper keeper = used();
                    Check.write(keeper, "F-90900999999p179");
                    keeper.load();
                    int[] due = {-90, 900, 99, 4000, 0, 0, 0, 9999, 0, 1, 1, 0, 0};
                    for (int what = 0; what <= 12; what++) {
                        check.due("about(" + what + ")", keeper.about(what), due[what]);
                    }
                    check.due("no hit", keeper.hit(0, 0), NONE);
                    check.refused(keeper, "no reading", INDEX, () -> keeper.reading(0, 0));
                    check.refused(keeper, "no other pin", INDEX, () -> keeper.pin(1, 0));
                });
        all.holds(place, "as the text tells. [the least and the most]", check -> {
            int[] least = {0, 60, 0, 4000, 0, 0, 0, 0, 0, 0, 0, 0, 0};
            int[] most = {90, 900, 99, 4000, 0, 0, 0, 9999, 0, 20, 20, 0, 0};
            FoucaultKeeper low = Check.loaded("F+00060000000");
            FoucaultKeeper high = Check.loaded("F+90900999999" + pins(160, 20));
            for (int what = 0; what <= 12; what++) {
                check.due("the least: about(" + what + ")", low.about(what), least[what]);
                check.due("the most: about(" + what + ")", high.about(what), most[what]);
            }
            check.due("-90", Check.loaded("F-90060000000").about(0), -90);
        });
        all.holds(place, "the pins, which all stand", check -> {
            FoucaultKeeper keeper = Check.loaded("F+90060009000p001p002");
            check.due("they fall", keeper.swing(8), 2);
            keeper.load();
            check.due("they stand", keeper.about(10), 2);
            check.due("they fall again", keeper.swing(8), 2);
        });
        all.holds(place, "Forgets all remembered states", check -> {
            FoucaultKeeper keeper = used();
            Check.write(keeper, PLAIN);
            keeper.load();
            check.refused(keeper, "undo", STATE, keeper::undo);
            keeper.push(1);
            check.due("undo of the push", keeper.undo(), 0);
            check.due("the height behind it", keeper.about(7), 5000);
        });
        all.holds(place, "and empties both save slots.", check -> {
            FoucaultKeeper keeper = used();
            Check.write(keeper, PLAIN);
            keeper.load();
            check.refused(keeper, "restore(0)", STATE, () -> keeper.restore(0));
            check.refused(keeper, "restore(1)", STATE, () -> keeper.restore(1));
        });
        all.holds(place, "Keeps the text.", check -> {
            FoucaultKeeper keeper = new FoucaultKeeper();
            Check.write(keeper, PLAIN + "p003");
            check.due("load", keeper.load(), 1);
            check.due("load again", keeper.load(), 1);
            check.due("one more sign", keeper.append('p'), 18);
            check.due("clearText", keeper.clearText(), 18);
        });
        all.holds(place, "Returns the number of pins.", check -> {
            for (int count : new int[] {0, 1, 19, 20}) {
                FoucaultKeeper keeper = new FoucaultKeeper();
                Check.write(keeper, PLAIN + pins(150, count));
                check.due("load of " + count, keeper.load(), count);
            }
        });
    }

    /** Everything but the text is other than at first. */
    private static FoucaultKeeper used() {
        FoucaultKeeper keeper = new FoucaultKeeper();
        keeper.set(3, 1);
        keeper.set(4, 9);
        keeper.addPin(2);
        keeper.addPin(7);
        keeper.swing(1);
        keeper.read();
        keeper.save(0);
        keeper.save(1);
        return keeper;
    }

    private static void loadRefused(Sentences all) {
        all.holds("Promise 5", "Throws `IllegalStateException` if the text is not as described above", check -> {
            String[] wrong = {"", "F", "F+5024005500", "F+91240055000", "F+50059055000", "F+50901055000", PLAIN + "p",
                PLAIN + "p18", PLAIN + "p180", PLAIN + "p001p001", PLAIN + " ", PLAIN + pins(0, 21)};
            for (String text : wrong) {
                FoucaultKeeper keeper = used();
                Check.write(keeper, text);
                check.refused(keeper, "load of " + text, STATE, keeper::load);
                check.due("undo behind it", keeper.undo(), 5);
                check.due("restore(0) behind it", keeper.restore(0), 1);
                check.due("restore(1) behind it", keeper.restore(1), 1);
                check.due("the text behind it", keeper.clearText(), text.length());
            }
        });
    }
}
