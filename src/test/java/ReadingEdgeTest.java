/** The boundary cases of the promises 20 to 22: what readings tell. */
public final class ReadingEdgeTest {
    private static final Class<IllegalArgumentException> ARGUMENT = IllegalArgumentException.class;
    private static final Class<IndexOutOfBoundsException> INDEX = IndexOutOfBoundsException.class;
    private static final int NONE = FoucaultKeeper.NONE;
    private static final int LEAST = Integer.MIN_VALUE;
    private static final int MOST = Integer.MAX_VALUE;

    public static void main(String[] args) {
        Sentences all = new Sentences();
        move(all);
        time(all);
        latitudeFrom(all);
        nearest(all);
        ties(all);
        refused(all);
        all.end();
    }

    /** Two readings: the second is so many turns and minutes away from the first, that at a direction. */
    private static FoucaultKeeper apart(int turnsInHour, int start, int turns, int minutes) {
        FoucaultKeeper keeper = new FoucaultKeeper();
        keeper.set(4, 99);
        keeper.set(0, 0);
        keeper.set(1, turnsInHour);
        keeper.swing(7);
        go(keeper, start);
        keeper.read();
        for (int left = turns; left > 0; left -= 500) {
            keeper.swing(Math.min(left, 500));
        }
        go(keeper, minutes);
        keeper.read();
        return keeper;
    }

    private static void go(FoucaultKeeper keeper, int minutes) {
        int left = minutes;
        while (left != 0) {
            int by = Math.max(-600, Math.min(600, left));
            keeper.nudge(by);
            left -= by;
        }
    }

    private static void move(Sentences all) {
        String place = "Promise 20";
        all.holds(place, "Returns the move from i to j.", check -> {
            int[][] due = {{0, 0, 0}, {0, 1, 1}, {0, -1, 10799}, {0, 5400, 5400}, {10799, 1, 1}, {10799, -10799, 1},
                {1, -2, 10798}, {10799, 0, 0}, {600, 10199, 10199}, {600, 10200, 10200}};
            for (int[] row : due) {
                FoucaultKeeper keeper = apart(240, row[0], 0, row[1]);
                check.due("from " + row[0] + " by " + row[1], keeper.move(0, 1), row[2]);
            }
            Known.answers(check, "move(0, 1)", 60, k -> k.move(0, 1));
        });
        all.holds(place, "`j`: reading, later than i [the first and the last of 20]", check -> {
            FoucaultKeeper keeper = new FoucaultKeeper();
            for (int i = 0; i < 20; i++) {
                keeper.read();
                keeper.nudge(7);
            }
            check.due("move(0, 19)", keeper.move(0, 19), 133);
            check.due("move(18, 19)", keeper.move(18, 19), 7);
            check.refused(keeper, "move(19, 19)", ARGUMENT, () -> keeper.move(19, 19));
            check.refused(keeper, "move(19, 20)", INDEX, () -> keeper.move(19, 20));
        });
    }

    private static void time(Sentences all) {
        String place = "Promise 21";
        all.holds(place, "the move * 60000 / (900 * its sine), in sixtieths of an hour, rounded down once", check -> {
            // {latitude, minutes, sixtieths}: at 90 there are 15 minutes in one, at 1 there are 0.255.
            int[][] due = {{90, 0, 0}, {90, 14, 0}, {90, 15, 1}, {90, 29, 1}, {90, 30, 2}, {90, 10799, 719}, {1, 1, 3},
                {1, 10799, 42349}, {1, 10795, 42333}, {1, 51, 200}, {1, 50, 196}, {50, 600, 52}, {50, 10799, 939}};
            times(check, due);
        });
        all.holds(place, "for one below 0 the same with 10800 minus the move", check -> {
            int[][] due = {{-90, 10799, 0}, {-90, 10786, 0}, {-90, 10785, 1}, {-90, 1, 719}, {-90, 15, 719}, {-90, 16, 718},
                {-1, 10799, 3}, {-1, 1, 42349}, {-50, 10200, 52}};
            times(check, due);
        });
        all.holds(place, "(0 if the move is 0)", check -> times(check, new int[][] {{-90, 0, 0}, {-1, 0, 0}, {-50, 0, 0}}));
        all.holds(place, "and the sine of the opposite latitude", check -> {
            for (int latitude : new int[] {1, 4, 17, 50, 89, 90}) {
                FoucaultKeeper keeper = apart(240, 0, 0, 777);
                keeper.read();
                go(keeper, -777);
                keeper.read();
                keeper.set(0, latitude);
                int there = keeper.time(0, 1);
                keeper.set(0, -latitude);
                check.due("back at -" + latitude, keeper.time(2, 3), there);
            }
        });
        all.holds(place, "NONE for the latitude 0.",
                check -> times(check, new int[][] {{0, 0, NONE}, {0, 1, NONE}, {0, 10799, NONE}}));
        all.holds(place, "with the present latitude and without nudges", check -> {
            FoucaultKeeper keeper = apart(240, 0, 0, 600);
            keeper.set(0, 90);
            check.due("at 90", keeper.time(0, 1), 40);
            keeper.set(0, 30);
            check.due("at 30", keeper.time(0, 1), 80);
            keeper.undo();
            check.due("at 90 again", keeper.time(0, 1), 40);
            Known.answers(check, "time(0, 1)", 4, k -> k.time(0, 1));
        });
    }

    private static void times(Check check, int[][] due) {
        for (int[] row : due) {
            FoucaultKeeper keeper = apart(240, 0, 0, row[1]);
            keeper.set(0, row[0]);
            check.due("the time of " + row[1] + " at " + row[0], keeper.time(0, 1), row[2]);
        }
    }

    private static void latitudeFrom(Sentences all) {
        String place = "Promise 22";
        all.holds(place, "gone on by 900 * sine * t / (1000 * the turns in an hour [..]), rounded down once (also if it is negative)",
                check -> {
                    // {turns, minutes, latitude} with 900 turns in an hour: sine * turns / 1000 minutes
                    int[][] due = {{1, 0, 0}, {1, 1, 90}, {1, 2, 90}, {1, -1, -1}, {1, -2, -1}, {2, 1, 30}, {2, 2, 90},
                        {2, -1, -1}, {2, -2, -31}, {2, -3, -31}, {3, -3, -42}};
                    for (int[] row : due) {
                        FoucaultKeeper keeper = apart(900, 0, row[0], row[1]);
                        check.due(row[1] + " minutes in " + row[0] + " turns", keeper.latitudeFrom(0, 1), row[2]);
                    }
                });
        all.holds(place, "where t is the difference of their clocks [0, and 250000]", check -> {
            for (int minutes : new int[] {0, 1, -1, 600, 5400}) {
                check.due(minutes + " minutes in no turn", apart(60, 5, 0, minutes).latitudeFrom(0, 1), 0);
            }
            for (int latitude : new int[] {90, -90, 37, -41, 1, -1}) {
                FoucaultKeeper keeper = new FoucaultKeeper();
                keeper.set(1, 900);
                keeper.set(0, latitude);
                keeper.set(4, 99);
                keeper.read();
                for (int i = 0; i < 500; i++) {
                    keeper.swing(500);
                }
                keeper.read();
                check.due("250000 turns at " + latitude, keeper.latitudeFrom(0, 1), latitude);
            }
        });
        all.holds(place, "the turns in an hour as they are now", check -> {
            FoucaultKeeper keeper = apart(60, 0, 10, 75);
            check.due("with 60", keeper.latitudeFrom(0, 1), 30);
            keeper.set(1, 120);
            check.due("with 120", keeper.latitudeFrom(0, 1), 90);
            keeper.set(1, 900);
            check.due("with 900", keeper.latitudeFrom(0, 1), 90);
            Known.answers(check, "latitudeFrom(0, 1)", 90, k -> k.latitudeFrom(0, 1));
        });
        all.holds(place, "is that of i gone on [around at 10799 and 0]", check -> {
            check.due("from 10790 to 5", apart(60, 10790, 1, 15).latitudeFrom(0, 1), 90);
            check.due("from 5 to 10790", apart(60, 5, 1, -15).latitudeFrom(0, 1), -70);
            check.due("from 10799 to 0", apart(900, 10799, 1, 1).latitudeFrom(0, 1), 90);
            check.due("from 0 to 10799", apart(900, 0, 1, -1).latitudeFrom(0, 1), -1);
            check.due("once around", apart(60, 0, 720, 0).latitudeFrom(0, 1), 0);
            check.due("twice around, and 900", apart(60, 0, 1500, 900).latitudeFrom(0, 1), 90);
        });
    }

    private static void nearest(Sentences all) {
        String place = "Promise 22";
        all.holds(place, "Returns the latitude from -90 to 90", check -> {
            check.due("just 90", apart(60, 0, 500, 7500).latitudeFrom(0, 1), 90);
            check.due("just -90", apart(60, 0, 500, -7500).latitudeFrom(0, 1), -90);
            check.due("beyond 90", apart(60, 0, 100, 1600).latitudeFrom(0, 1), 90);
            check.due("beyond -90", apart(60, 0, 100, -1600).latitudeFrom(0, 1), -90);
        });
        all.holds(place, "for which this is nearest to the direction of j", check -> {
            // 100 turns at 60 in an hour: 1.5 minutes for each thousandth; 45 and 46 come to 1060 and 1077.
            check.due("8 over 45, 9 below 46", apart(60, 0, 100, 1068).latitudeFrom(0, 1), 45);
            check.due("9 over 45, 8 below 46", apart(60, 0, 100, 1069).latitudeFrom(0, 1), 46);
            check.due("right at 46", apart(60, 0, 100, 1077).latitudeFrom(0, 1), 46);
        });
        all.holds(place, "(the distance of two directions is the smaller way around)", check -> {
            // At 90 it comes to 1500, at -90 to 9300: 5399 is 3899 and 3901 from them, 5401 the other way round.
            check.due("nearer to 1500", apart(60, 0, 100, 5399).latitudeFrom(0, 1), 90);
            check.due("nearer to 9300", apart(60, 0, 100, 5401).latitudeFrom(0, 1), -90);
            // From 10790 it comes to 1490 and 9290; 10799 is 9 on from the start, and 4 is 14 on.
            check.due("9 on from 10790", apart(60, 10790, 100, 9).latitudeFrom(0, 1), 0);
            check.due("14 on from 10790", apart(60, 10790, 100, 14).latitudeFrom(0, 1), 1);
            check.due("1 back from 0", apart(60, 0, 100, -1).latitudeFrom(0, 1), 0);
        });
    }

    private static void ties(Sentences all) {
        String place = "Promise 22";
        all.holds(place, "among several the one nearest to 0", check -> {
            check.due("all come to the same", apart(60, 0, 0, 9).latitudeFrom(0, 1), 0);
            check.due("0 to 89 come to the same", apart(900, 0, 1, 0).latitudeFrom(0, 1), 0);
            check.due("-1 to -90 come to the same", apart(900, 0, 1, -1).latitudeFrom(0, 1), -1);
            check.due("76 to 89 come to it", apart(900, 0, 30, 29).latitudeFrom(0, 1), 76);
            // In 1000 turns 2 comes to 34 and 3 to 52 minutes; 43 is 9 from both.
            check.due("2 and 3 are as near", apart(900, 0, 1000, 43).latitudeFrom(0, 1), 2);
            check.due("-2 and -3 are as near", apart(900, 0, 1000, -43).latitudeFrom(0, 1), -2);
        });
        all.holds(place, "among two such ones the positive one", check -> {
            check.due("90 and -90 both come to it", apart(60, 0, 360, 5400).latitudeFrom(0, 1), 90);
            check.due("90 and -90 are as near", apart(60, 0, 100, 5400).latitudeFrom(0, 1), 90);
            check.due("30 and -30 both come to it", apart(60, 0, 720, 5400).latitudeFrom(0, 1), 30);
        });
    }

    private static void refused(Sentences all) {
        int[][] none = {{-1, 0}, {0, 2}, {1, 2}, {2, 3}, {0, 19}, {0, 20}, {19, 20}, {LEAST, 1}, {0, MOST}, {MOST, MOST},
            {0, LEAST}, {LEAST, MOST}};
        int[][] notLater = {{0, 0}, {1, 1}, {1, 0}};
        all.holds("Promise 20", "Throws `IndexOutOfBoundsException` if there is no such reading", check -> {
            for (int[] p : none) {
                Known.refuses(check, "move(" + p[0] + ", " + p[1] + ")", INDEX, k -> k.move(p[0], p[1]));
            }
        });
        all.holds("Promise 20", "Throws `IllegalArgumentException` if j is not later than i", check -> {
            for (int[] p : notLater) {
                Known.refuses(check, "move(" + p[0] + ", " + p[1] + ")", ARGUMENT, k -> k.move(p[0], p[1]));
            }
        });
        all.holds("Promise 21", "Throws `IndexOutOfBoundsException` if there is no such reading", check -> {
            for (int[] p : none) {
                Known.refuses(check, "time(" + p[0] + ", " + p[1] + ")", INDEX, k -> k.time(p[0], p[1]));
            }
            FoucaultKeeper equator = new FoucaultKeeper();
            equator.set(0, 0);
            check.refused(equator, "time(0, 1) of none at 0", INDEX, () -> equator.time(0, 1));
        });
        all.holds("Promise 21", "Throws `IllegalArgumentException` if j is not later than i", check -> {
            for (int[] p : notLater) {
                Known.refuses(check, "time(" + p[0] + ", " + p[1] + ")", ARGUMENT, k -> k.time(p[0], p[1]));
            }
            FoucaultKeeper equator = new FoucaultKeeper();
            equator.set(0, 0);
            equator.read();
            check.refused(equator, "time(0, 0) at 0", ARGUMENT, () -> equator.time(0, 0));
        });
        all.holds("Promise 22", "Throws `IndexOutOfBoundsException` if there is no such reading", check -> {
            for (int[] p : none) {
                Known.refuses(check, "latitudeFrom(" + p[0] + ", " + p[1] + ")", INDEX, k -> k.latitudeFrom(p[0], p[1]));
            }
        });
        all.holds("Promise 22", "Throws `IllegalArgumentException` if j is not later than i", check -> {
            for (int[] p : notLater) {
                Known.refuses(check, "latitudeFrom(" + p[0] + ", " + p[1] + ")", ARGUMENT, k -> k.latitudeFrom(p[0], p[1]));
            }
        });
    }
}
