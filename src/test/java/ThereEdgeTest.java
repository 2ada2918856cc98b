/** The boundary cases of the promises 6 to 10: what there is. */
public final class ThereEdgeTest {
    private static final Class<IllegalArgumentException> ARGUMENT = IllegalArgumentException.class;
    private static final Class<IndexOutOfBoundsException> INDEX = IndexOutOfBoundsException.class;
    private static final int NONE = FoucaultKeeper.NONE;
    private static final int LEAST = Integer.MIN_VALUE;
    private static final int MOST = Integer.MAX_VALUE;

    public static void main(String[] args) {
        Sentences all = new Sentences();
        about(all);
        pin(all);
        hit(all);
        reading(all);
        sine(all);
        all.end();
    }

    private static void about(Sentences all) {
        String place = "Promise 6";
        all.holds(place, "0 to 4: this setting; 5: the direction; [..] 12: of readings", check -> {
            int[] due = {90, 60, 0, 4000, 0, 135, 0, 8891, 9, 3, 1, 2, 2};
            for (int what = 0; what <= 12; what++) {
                int w = what;
                Known.answers(check, "about(" + what + ")", due[what], k -> k.about(w));
            }
        });
        all.holds(place, "Throws `IllegalArgumentException` if what is not 0 to 12", check -> {
            for (int what : new int[] {-1, 13, MOST, LEAST}) {
                Known.refuses(check, "about(" + what + ")", ARGUMENT, k -> k.about(what));
            }
        });
        all.holds(place, "9: the number of pins; 10: of pins that stand; 11: of hits in the ledger [none, and all that there can be]",
                check -> {
                    FoucaultKeeper keeper = Check.loaded("F+90060009999");
                    int[] empty = {0, 0, 0, 0};
                    int[] standing = {40, 40, 0, 0};
                    int[] fallen = {40, 0, 20, 0};
                    counts(check, "empty", keeper, empty);
                    for (int at = 1; at <= 40; at++) {
                        keeper.addPin(at);
                    }
                    counts(check, "40 stand", keeper, standing);
                    keeper.swing(3);
                    counts(check, "40 have fallen", keeper, fallen);
                });
    }

    private static void counts(Check check, String when, FoucaultKeeper keeper, int[] due) {
        for (int i = 0; i < due.length; i++) {
            check.due(when + ": about(" + (9 + i) + ")", keeper.about(9 + i), due[i]);
        }
    }

    private static void pin(Sentences all) {
        String place = "Promise 7";
        all.holds(place, "2: how many minutes the direction must go on to come to it, 0 to 10799", check -> {
            int[][] due = {{0, 0}, {1, 1}, {10799, 10799}, {5400, 5400}};
            for (int[] pair : due) {
                FoucaultKeeper start = new FoucaultKeeper();
                start.addPin(pair[0]);
                check.due("from 0 to " + pair[0], start.pin(0, 2), pair[1]);
                FoucaultKeeper on = new FoucaultKeeper();
                on.nudge(600);
                on.addPin((600 + pair[0]) % 10800);
                check.due("from 600, " + pair[0] + " on", on.pin(0, 2), pair[1]);
                FoucaultKeeper end = new FoucaultKeeper();
                end.nudge(-1);
                end.addPin((10799 + pair[0]) % 10800);
                check.due("from 10799, " + pair[0] + " on", end.pin(0, 2), pair[1]);
            }
            FoucaultKeeper south = Check.loaded("F-50240055000p001");
            check.due("it goes on, where the swing goes back too", south.pin(0, 2), 60);
        });
        all.holds(place, "1: 1 if it stands, 0 if it has fallen", check -> {
            Known.answers(check, "pin(0, 1)", 0, k -> k.pin(0, 1));
            Known.answers(check, "pin(1, 1)", 0, k -> k.pin(1, 1));
            Known.answers(check, "pin(2, 1)", 1, k -> k.pin(2, 1));
        });
        all.holds(place, "Throws `IndexOutOfBoundsException` if there is no such pin", check -> {
            for (int pin : new int[] {-1, Known.PINS, 39, 40, MOST, LEAST}) {
                for (int what = 0; what <= 2; what++) {
                    int w = what;
                    Known.refuses(check, "pin(" + pin + ", " + what + ")", INDEX, k -> k.pin(pin, w));
                }
            }
            FoucaultKeeper keeper = new FoucaultKeeper();
            check.refused(keeper, "pin(0, 0) of none", INDEX, () -> keeper.pin(0, 0));
            keeper.addPin(7);
            check.due("the last one", keeper.pin(0, 0), 7);
            keeper.removePin(0);
            check.refused(keeper, "pin(0, 0) of one removed", INDEX, () -> keeper.pin(0, 0));
        });
        all.holds(place, "Throws `IllegalArgumentException` if what is not 0 to 2", check -> {
            for (int what : new int[] {-1, 3, MOST, LEAST}) {
                Known.refuses(check, "pin(0, " + what + ")", ARGUMENT, k -> k.pin(0, what));
                Known.refuses(check, "pin(2, " + what + ")", ARGUMENT, k -> k.pin(2, what));
            }
        });
    }

    private static void hit(Sentences all) {
        String place = "Promise 8";
        all.holds(place, "0 for the latest one, 1 for the one before, and so on", check -> {
            int[][] due = {{120, 7, 8893}, {60, 3, 8947}};
            for (int j = 0; j < 2; j++) {
                for (int what = 0; what <= 2; what++) {
                    int at = j;
                    int w = what;
                    Known.answers(check, "hit(" + j + ", " + what + ")", due[j][what], k -> k.hit(at, w));
                }
            }
        });
        all.holds(place, "NONE if the ledger has not so many hits.", check -> {
            for (int what = 0; what <= 2; what++) {
                int w = what;
                check.due("an empty ledger", new FoucaultKeeper().hit(0, what), NONE);
                for (int j : new int[] {2, 19, 20, 21, MOST}) {
                    Known.answers(check, "hit(" + j + ", " + what + ")", NONE, k -> k.hit(j, w));
                }
            }
            FoucaultKeeper full = Check.loaded("F+90900009999");
            for (int at = 1; at <= 21; at++) {
                full.addPin(at);
            }
            full.swing(21);
            check.due("the oldest of a full ledger", full.hit(19, 0), 2);
            check.due("one before it", full.hit(20, 0), NONE);
        });
        all.holds(place, "Throws `IllegalArgumentException` if j is negative, or what is not 0 to 2", check -> {
            for (int j : new int[] {-1, LEAST}) {
                Known.refuses(check, "hit(" + j + ", 0)", ARGUMENT, k -> k.hit(j, 0));
                Known.refuses(check, "hit(" + j + ", 3)", ARGUMENT, k -> k.hit(j, 3));
            }
            for (int what : new int[] {-1, 3, MOST, LEAST}) {
                Known.refuses(check, "hit(0, " + what + ")", ARGUMENT, k -> k.hit(0, what));
                Known.refuses(check, "hit(2, " + what + ") of two", ARGUMENT, k -> k.hit(2, what));
                Known.refuses(check, "hit(20, " + what + ")", ARGUMENT, k -> k.hit(20, what));
            }
        });
    }

    private static void reading(Sentences all) {
        String place = "Promise 9";
        all.holds(place, "0: the clock; 1: the direction; 2: the height", check -> {
            int[][] due = {{5, 75, 8945}, {9, 135, 8891}};
            for (int i = 0; i < 2; i++) {
                for (int what = 0; what <= 2; what++) {
                    int at = i;
                    int w = what;
                    Known.answers(check, "reading(" + i + ", " + what + ")", due[i][what], k -> k.reading(at, w));
                }
            }
        });
        all.holds(place, "Throws `IndexOutOfBoundsException` if there is no such reading", check -> {
            for (int i : new int[] {-1, Known.READINGS, 19, 20, MOST, LEAST}) {
                for (int what = 0; what <= 2; what++) {
                    int w = what;
                    Known.refuses(check, "reading(" + i + ", " + what + ")", INDEX, k -> k.reading(i, w));
                }
            }
            FoucaultKeeper keeper = new FoucaultKeeper();
            check.refused(keeper, "reading(0, 0) of none", INDEX, () -> keeper.reading(0, 0));
            keeper.read();
            check.due("the height of the only one", keeper.reading(0, 2), 5000);
            keeper.undo();
            check.refused(keeper, "reading(0, 0) of one taken back", INDEX, () -> keeper.reading(0, 0));
        });
        all.holds(place, "Throws `IllegalArgumentException` if what is not 0 to 2", check -> {
            for (int what : new int[] {-1, 3, MOST, LEAST}) {
                Known.refuses(check, "reading(0, " + what + ")", ARGUMENT, k -> k.reading(0, what));
                Known.refuses(check, "reading(1, " + what + ")", ARGUMENT, k -> k.reading(1, what));
            }
        });
    }

    private static void sine(Sentences all) {
        String place = "Promise 10";
        all.holds(place, "`latitude`: -90 to 90", check -> {
            Known.answers(check, "sine(-90)", -1000, k -> k.sine(-90));
            Known.answers(check, "sine(-89)", -999, k -> k.sine(-89));
            Known.answers(check, "sine(0)", 0, k -> k.sine(0));
            Known.answers(check, "sine(89)", 999, k -> k.sine(89));
            Known.answers(check, "sine(90)", 1000, k -> k.sine(90));
        });
        all.holds(place, "Throws `IllegalArgumentException` if latitude is out of range", check -> {
            for (int latitude : new int[] {-91, 91, 95, -95, MOST, LEAST, LEAST + 1}) {
                Known.refuses(check, "sine(" + latitude + ")", ARGUMENT, k -> k.sine(latitude));
            }
        });
    }
}
