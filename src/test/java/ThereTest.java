/** Promises 6 to 10: what there is. */
public final class ThereTest {
    public static void main(String[] args) {
        Check check = new Check();
        promise6(check);
        promise7(check);
        promise8(check);
        promise8Ledger(check);
        promise9(check);
        promise10(check);
        check.end();
    }

    private static void promise6(Check check) {
        // 15 minutes in a turn, straight on to two of three pins.
        FoucaultKeeper keeper = Check.loaded("F+90060008000p000p001");
        keeper.addPin(15);
        keeper.set(4, 7);
        keeper.set(3, 300);
        keeper.set(2, 12);
        keeper.swing(5);
        keeper.read();
        int height = 8000 - (8000 - 50) * 12 / 10000 - 1 - 50 + 7;
        for (int turn = 2; turn <= 5; turn++) {
            height -= turn == 4 ? 50 : 0;
            height += 7 - height * 12 / 10000 - 1;
        }
        int[] due = {90, 60, 12, 300, 7, 75, 0, height, 5, 3, 1, 2, 1};
        for (int what = 0; what <= 12; what++) {
            check.due("about(" + what + ")", keeper.about(what), due[what]);
        }
        check.refused(keeper, "about(-1)", IllegalArgumentException.class, () -> keeper.about(-1));
        check.refused(keeper, "about(13)", IllegalArgumentException.class, () -> keeper.about(13));
        FoucaultKeeper half = Check.loaded("F+50240055000");
        half.swing(1);
        check.due("about(6) between minutes", half.about(6), 209400);
    }

    private static void promise7(Check check) {
        FoucaultKeeper keeper = Check.loaded("F+90060009000p000p010p179");
        keeper.addPin(15);
        keeper.swing(1);
        int[][] due = {{0, 1, 10785}, {600, 1, 585}, {10740, 1, 10725}, {15, 0, 0}};
        for (int k = 0; k < 4; k++) {
            for (int what = 0; what <= 2; what++) {
                check.due("pin(" + k + ", " + what + ")", keeper.pin(k, what), due[k][what]);
            }
        }
        check.refused(keeper, "pin(0, 3)", IllegalArgumentException.class, () -> keeper.pin(0, 3));
        check.refused(keeper, "pin(0, -1)", IllegalArgumentException.class, () -> keeper.pin(0, -1));
        for (int k : new int[] {-1, 4, 40, Integer.MAX_VALUE, Integer.MIN_VALUE}) {
            FoucaultKeeper four = Check.loaded("F+90060009000p000p010p179p002");
            check.refused(four, "pin of " + k, IndexOutOfBoundsException.class, () -> four.pin(k, 0));
            check.refused(four, "pin of " + k + ", 3", IndexOutOfBoundsException.class, () -> four.pin(k, 3));
        }
    }

    private static void promise8(Check check) {
        FoucaultKeeper keeper = Check.loaded("F+90060005000");
        keeper.swing(2);
        check.due("no hit", keeper.hit(0, 0), -9);
        keeper.addPin(31);
        keeper.addPin(45);
        keeper.addPin(46);
        keeper.swing(2);
        // The clock of a hit is that ahead of its turn: the third turn comes to 45, the fourth to 46.
        int[][] due = {{46, 3, 4847}, {45, 2, 4898}, {31, 2, 4948}};
        for (int j = 0; j < 3; j++) {
            for (int what = 0; what <= 2; what++) {
                check.due("hit(" + j + ", " + what + ")", keeper.hit(j, what), due[j][what]);
            }
        }
        check.due("hit(3, 0)", keeper.hit(3, 0), -9);
        check.due("hit(20, 2)", keeper.hit(20, 2), -9);
        check.due("hit(max, 2)", keeper.hit(Integer.MAX_VALUE, 2), -9);
        check.refused(keeper, "hit(-1, 0)", IllegalArgumentException.class, () -> keeper.hit(-1, 0));
        check.refused(keeper, "hit(0, 3)", IllegalArgumentException.class, () -> keeper.hit(0, 3));
        check.refused(keeper, "hit(0, -1)", IllegalArgumentException.class, () -> keeper.hit(0, -1));
        check.refused(keeper, "hit(99, 3)", IllegalArgumentException.class, () -> keeper.hit(99, 3));
        keeper.removePin(0);
        keeper.raise();
        check.due("a hit of a removed pin", keeper.hit(2, 0), 31);
        check.due("hits of pins raised", keeper.about(11), 3);
    }

    private static void promise8Ledger(Check check) {
        FoucaultKeeper keeper = Check.loaded("F+90900009999");
        for (int place = 1; place <= 25; place++) {
            keeper.addPin(place);
        }
        check.due("25 hits", keeper.swing(25), 25);
        check.due("the ledger keeps 20", keeper.about(11), 20);
        for (int j = 0; j < 20; j++) {
            check.due("place of hit " + j, keeper.hit(j, 0), 25 - j);
            check.due("clock of hit " + j, keeper.hit(j, 1), 24 - j);
            check.due("height of hit " + j, keeper.hit(j, 2), 9999 - 51 * (24 - j) - 50);
        }
        check.due("hit(20, 0)", keeper.hit(20, 0), -9);
    }

    private static void promise9(Check check) {
        FoucaultKeeper keeper = Check.loaded("F-90900005000");
        check.refused(keeper, "reading(0, 0) of none", IndexOutOfBoundsException.class, () -> keeper.reading(0, 0));
        keeper.read();
        keeper.swing(3);
        keeper.read();
        int[][] due = {{0, 0, 5000}, {3, 10797, 4997}};
        for (int i = 0; i < 2; i++) {
            for (int what = 0; what <= 2; what++) {
                check.due("reading(" + i + ", " + what + ")", keeper.reading(i, what), due[i][what]);
            }
        }
        check.refused(keeper, "reading(0, 3)", IllegalArgumentException.class, () -> keeper.reading(0, 3));
        check.refused(keeper, "reading(0, -1)", IllegalArgumentException.class, () -> keeper.reading(0, -1));
        for (int i : new int[] {-1, 2, 20, Integer.MAX_VALUE, Integer.MIN_VALUE}) {
            FoucaultKeeper two = new FoucaultKeeper();
            two.read();
            two.read();
            check.refused(two, "reading " + i, IndexOutOfBoundsException.class, () -> two.reading(i, 0));
            check.refused(two, "reading " + i + ", 3", IndexOutOfBoundsException.class, () -> two.reading(i, 3));
        }
    }

    private static void promise10(Check check) {
        FoucaultKeeper keeper = new FoucaultKeeper();
        int[] row = {0, 87, 174, 259, 342, 423, 500, 574, 643, 707, 766, 819, 866, 906, 940, 966, 985, 996, 1000};
        for (int k = 0; k < row.length; k++) {
            check.due("sine(" + 5 * k + ")", keeper.sine(5 * k), row[k]);
        }
        int[][] between = {{1, 17}, {2, 34}, {3, 52}, {4, 69}, {6, 104}, {51, 776}, {54, 808}, {88, 998}, {89, 999}};
        for (int[] pair : between) {
            check.due("sine(" + pair[0] + ")", keeper.sine(pair[0]), pair[1]);
        }
        for (int latitude = 0; latitude <= 90; latitude++) {
            check.due("sine(-" + latitude + ")", keeper.sine(-latitude), -keeper.sine(latitude));
        }
        for (int wrong : new int[] {-91, 91, Integer.MAX_VALUE, Integer.MIN_VALUE}) {
            check.refused(keeper, "sine(" + wrong + ")", IllegalArgumentException.class, () -> keeper.sine(wrong));
        }
    }
}
