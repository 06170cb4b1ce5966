/** Promises 43 to 45: chance, rests, years. */
public final class OddsTest {
    private static final Check CHECK = new Check("OddsTest");

    public static void main(String[] args) {
        chances();
        chancesOfOthers();
        rests();
        years();
        yearsOfOthers();
        CHECK.finish();
    }

    private static void chances() {
        HalfMast x = Check.in("person a plain lacks 0 ; person b plain lacks 0 ; weighs 3 ; mast 10 ; fares 0 ;");
        // Height, days, odds, millionths: each tooth is an inch.
        int[][] due = {{10, 1, 3, 300000}, {9, 1, 3, 0}, {11, 1, 3, 1000000}, {10, 2, 3, 510000}, {9, 2, 3, 90000},
            {8, 2, 3, 0}, {5, 6, 1, 1}, {6, 6, 1, 55}, {4, 6, 9, 0}, {5, 6, 9, 531441}, {10, 6, 9, 999999},
            {10, 6, 0, 0}, {5, 6, 10, 1000000}, {4, 6, 10, 0}, {99, 6, 5, 1000000}, {8, 3, 5, 125000}, {9, 3, 5, 500000}};
        for (int[] c : due) {
            CHECK.due("chance " + c[0] + " " + c[1] + " " + c[2], x.chance(0, c[0], c[1], c[2]), c[3]);
            CHECK.due("of b", x.chance(1, c[0], c[1], c[2]), c[3]);
        }
        // Ahead of the day: who lacks 3 then, lacks 9 more behind it.
        x = Check.in("person a plain lacks 0 ; weighs 6 ; mast 10 ; fares (2 < gone) * 9 ;");
        CHECK.due("12 by the tooth of this day", x.chance(0, 9, 1, 4), 400000);
        CHECK.due("nothing without", x.chance(0, 10, 1, 4), 400000);
        // 12 + 9 by the first alone, 12 by the second alone, 12 + 3 + 9 by both.
        CHECK.due("21 is three", x.chance(0, 8, 2, 4), 400000);
        CHECK.due("24 is four", x.chance(0, 7, 2, 4), 160000);
        CHECK.due("nothing is done", x.count(5) + x.count(4) + x.count(11), 0);
        x = Check.in("person a plain lacks 59 ; weighs 1 ; mast 60 ; fares 0 ;");
        CHECK.due("60 at most", x.chance(0, 1, 3, 5), 875000);
    }

    private static void chancesOfOthers() {
        HalfMast x = Check.in("person a plain lacks 0 ; fares 0 ;");
        for (int[] wrong : new int[][] {{-1, 5, 1, 5}, {1, 5, 1, 5}, {0, 0, 1, 5}, {0, 100, 1, 5}, {0, 5, 0, 5}, {0, 5, 7, 5},
            {0, 5, 1, -1}, {0, 5, 1, 11}, {0, 5, -1, 5}, {0, 5, Integer.MAX_VALUE, 5}}) {
            CHECK.due("chance others", x.chance(wrong[0], wrong[1], wrong[2], wrong[3]), -1);
        }
    }

    private static void rests() {
        HalfMast x = new HalfMast();
        // Both get, one loses, the other gets, then the rests.
        int[][] due = {{5, 2, 3, 0, 3}, {2, 1, 3, 0}, {3, 1, 3, 0, 3}, {2, 0, 3, 0, 1, 2}, {3, 0, 3, 0, 1, 2, 3}, {4, 0, 3, 0, 3},
            {0, 0, 0, 0, 1, 2, 3}, {9, 9, 9, 0, 3}, {0, 9, 9, 0}, {9, 0, 0, 0, 3}};
        for (int[] c : due) {
            String call = "rests " + c[0] + " " + c[1] + " " + c[2];
            CHECK.due(call, Check.rests(x, c[0], c[1], c[2], -1), c.length - 3);
            for (int i = 0; i < 5; i++) {
                CHECK.due(call + " " + i, Check.rests(x, c[0], c[1], c[2], i), i + 3 < c.length ? c[i + 3] : Check.THROWN);
            }
        }
        for (int[] wrong : new int[][] {{-1, 0, 0, -1}, {10, 0, 0, -1}, {0, -1, 0, -1}, {0, 10, 0, -1}, {0, 0, -1, -1}, {0, 0, 10, -1},
            {0, 0, 0, -2}, {0, 0, 0, 4}, {10, 10, 10, 0}, {0, 0, 0, Integer.MIN_VALUE}, {0, 0, 0, Integer.MAX_VALUE}}) {
            CHECK.due("rests others", Check.rests(x, wrong[0], wrong[1], wrong[2], wrong[3]), Check.THROWN);
        }
    }

    private static void years() {
        HalfMast x = Check.in("person a plain lacks 10 ; person b lover lacks 0 ; person c widow lacks 30 ; "
                + "weighs 4 ; mast 60 ; fares 0 - 1 ;");
        // Seed, days, how often, how high, what all lack: reckoned apart from this project.
        int[][] due = {{0, 1, 1, 41, 47}, {1, 1, 2, 51, 24}, {1, 2, 2, 51, 22}, {1, 3, 4, 59, 7}, {1, 4, 5, 60, 0},
            {42, 10, 17, 34, 79}, {9999, 99, 115, 36, 55}, {7, 99, 131, 50, 28}};
        for (int[] c : due) {
            for (int what = 0; what < 3; what++) {
                CHECK.due("years " + c[0] + " " + c[1] + " " + what, x.years(c[0], c[1], what), c[2 + what]);
            }
        }
        CHECK.due("all is as ahead: lacks", x.count(5), 40);
        CHECK.due("all is as ahead: day", x.count(4), 0);
        CHECK.due("all is as ahead: undo", x.count(11), 0);
        x.lose(0, 20);
        x.get(0, 20);
        CHECK.due("the same again", x.years(42, 10, 2), 79);
        x.get(2, 14);
        CHECK.due("from now on", x.years(1, 1, 2), 10);
    }

    private static void yearsOfOthers() {
        HalfMast x = new HalfMast();
        CHECK.due("nobody: how often", x.years(5, 99, 0), 0);
        CHECK.due("nobody: how high", x.years(5, 99, 1), 40);
        CHECK.due("nobody: lacks", x.years(5, 99, 2), 0);
        for (int[] wrong : new int[][] {{-1, 5, 1}, {10000, 5, 1}, {5, 0, 1}, {5, 100, 1}, {5, 5, -1}, {5, 5, 3},
            {Integer.MIN_VALUE, 5, 1}, {5, Integer.MAX_VALUE, 1}}) {
            CHECK.due("years others", x.years(wrong[0], wrong[1], wrong[2]), -1);
        }
    }
}
