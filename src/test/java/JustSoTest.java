/** Promises 19 to 22, 41 and 42: spared, least, cost, heavy, pair, even. */
public final class JustSoTest {
    private static final Check CHECK = new Check("JustSoTest");
    /** They weigh 12, 30, 10, 4: 56 by 5, so it stands at 19. */
    private static final String FOUR = "person ann plain lacks 12 ; person bob lover lacks 20 ; "
            + "person cid widow lacks 5 ; person dot child lacks 9 ; mast 30 ; weighs 5 ; ";

    public static void main(String[] args) {
        sparing();
        least();
        costing();
        weighingMost();
        pairs();
        evens();
        CHECK.finish();
    }

    private static void sparing() {
        HalfMast x = Check.in(FOUR);
        // By bob alone 26 are left: 25. By ann 44: 22. By cid 46: 21. By dot 52: 20.
        int[][] due = {{1, 0}, {19, 0}, {20, 1}, {21, 1}, {22, 1}, {23, 2}, {25, 2}, {26, 3}, {28, 3}, {29, 7},
            {30, 7}, {31, -1}, {99, -1}, {0, -1}, {100, -1}, {-5, -1}};
        for (int[] c : due) {
            CHECK.due("spared " + c[0], x.spared(c[0]), c[1]);
        }
        x = Check.in("person a plain lacks 3;person b plain lacks 9;person c plain lacks 3;person d plain lacks 9;weighs 3;mast 20;");
        CHECK.due("of equal ones the least set", x.spared(14), 2);
        CHECK.due("two, the least set", x.spared(16), 3);
        CHECK.due("the fewest, not the least set", x.spared(17), 10);
        CHECK.due("at the highest mast", Check.in("person a plain lacks 6 ; mast 99 ;").spared(99), 1);
        CHECK.due("nobody is there", new HalfMast().spared(40), 0);
        CHECK.due("nobody is there", new HalfMast().spared(41), -1);
        CHECK.due("nothing is done", x.count(5), 24);
    }

    private static void least() {
        HalfMast x = Check.in(FOUR);
        // Height, how much, who.
        int[][] due = {{19, 0, -1}, {18, 2, 2}, {20, -1, 2}, {17, 5, 2}, {21, -4, 2}, {22, -12, 0}, {25, -20, 1},
            {26, -1000, -1000}, {0, 47, 2}, {30, -1000, -1000}, {99, -1000, -1000}};
        for (int[] c : due) {
            CHECK.due("least " + c[0], x.least(c[0], 0), c[1]);
            CHECK.due("least " + c[0] + " who", x.least(c[0], 1), c[2]);
        }
        // 7 weigh, 10 an inch: 3 more make one; none less does.
        x = Check.in("person a child lacks 14 ; person b plain lacks 0 ; person c plain lacks 0 ; weighs 10 ;");
        CHECK.due("of equal ones the first", x.least(39, 1), 1);
        CHECK.due("how much", x.least(39, 0), 3);
        // 5 weigh, 5 an inch, to the nearest: 3 less or 3 more.
        x = Check.in("person a plain lacks 5 ; person b plain lacks 0 ; weighs 5 ; rounds near ;");
        CHECK.due("up by 3 less", x.least(40, 0), -3);
        CHECK.due("down by 3 more", x.least(38, 0), 3);
        x = Check.in("person a lover lacks 1 ; person b plain lacks 0 ; weighs 11 ; mast 3 ;");
        CHECK.due("the lover's all", x.least(3, 0), -1);
        CHECK.due("another inch", x.least(1, 0), 11);
        CHECK.due("the ground", x.least(0, 0), 22);
        CHECK.due("of equal ones the first", x.least(0, 1), 0);
        x = Check.in("person a plain lacks 50 ; weighs 1 ; mast 99 ;");
        CHECK.due("60 more", Check.in("person a plain lacks 0 ; weighs 1 ; mast 99 ;").least(39, 0), 60);
        CHECK.due("60 less", Check.in("person a plain lacks 60 ; weighs 1 ; mast 99 ;").least(99, 0), -60);
        CHECK.due("60 at most", x.least(39, 0), 10);
        CHECK.due("not more", x.least(38, 0), -1000);
        CHECK.due("to nothing", x.least(99, 0), -50);
        for (int[] wrong : new int[][] {{-1, 0}, {100, 0}, {49, 2}, {49, -1}, {-1, 1}, {Integer.MIN_VALUE, 0}}) {
            CHECK.due("least others", x.least(wrong[0], wrong[1]), -1000);
        }
        CHECK.due("nobody is there", new HalfMast().least(39, 1), -1000);
        CHECK.due("nobody need", new HalfMast().least(40, 1), -1);
    }

    private static void costing() {
        HalfMast x = Check.in(FOUR);
        int[] due = {2, 2, 1, 4};
        for (int i = 0; i < 4; i++) {
            CHECK.due("cost " + i, x.cost(i), due[i]);
        }
        CHECK.due("others", x.cost(4), -1);
        CHECK.due("others", x.cost(-1), -1);
        x = Check.in("person a plain lacks 3 ; person b plain lacks 0 ; person c plain lacks 11 ; weighs 10 ; mast 1 ;");
        CHECK.due("3 is not enough, 14 weigh", x.cost(0), -1);
        CHECK.due("there is nothing to lose less", x.cost(1), -1);
        CHECK.due("5 is", x.cost(2), 5);
        x = Check.in("person a lover lacks 4 ; weighs 10 ;");
        CHECK.due("a lover's last", x.cost(0), 4);
        x = Check.in("person a plain lacks 20 ; weighs 1 ; mast 5 ;");
        CHECK.due("from below the ground", x.cost(0), 16);
        CHECK.due("at the mast", Check.in("person a plain lacks 4 ;").cost(0), -1);
    }

    private static void weighingMost() {
        CHECK.due("bob", Check.in(FOUR).heavy(), 1);
        CHECK.due("of equal ones the first",
                Check.in("person a plain lacks 3;person b widow lacks 5;person c plain lacks 10;person d child lacks 20;").heavy(), 1);
        CHECK.due("all nothing", Check.in("person a plain lacks 0;person b plain lacks 0;").heavy(), 0);
        CHECK.due("nobody", new HalfMast().heavy(), -1);
        HalfMast x = Check.in(FOUR);
        x.spare(1);
        CHECK.due("ann now", x.heavy(), 0);
        x.lose(2, 2);
        CHECK.due("cid now", x.heavy(), 2);
    }

    private static void pairs() {
        CHECK.due("ann and bob", Check.in(FOUR).pair(), 1);
        CHECK.due("bob and cid",
                Check.in("person a plain lacks 3;person b widow lacks 5;person c plain lacks 10;person d child lacks 2;weighs 1;").pair(), 10);
        CHECK.due("the last two",
                Check.in("person a plain lacks 3;person b plain lacks 3;person c plain lacks 9;person d plain lacks 9;weighs 1;").pair(), 19);
        CHECK.due("of equal ones the first by the lesser",
                Check.in("person a plain lacks 3;person b plain lacks 9;person c plain lacks 3;person d plain lacks 3;weighs 1;").pair(), 1);
        CHECK.due("then the other one",
                Check.in("person a plain lacks 9;person b plain lacks 1;person c plain lacks 3;person d plain lacks 3;weighs 1;").pair(), 2);
        CHECK.due("by the flag, not the weight",
                Check.in("person a plain lacks 1;person b plain lacks 1;person c plain lacks 2;").pair(), 1);
        CHECK.due("one alone", Check.in("person a plain lacks 9;").pair(), -1);
        CHECK.due("nobody", new HalfMast().pair(), -1);
    }

    private static void evens() {
        CHECK.due("four", Check.in(FOUR).even(), 4);
        CHECK.due("nobody", new HalfMast().even(), 6);
        // What lacks, what weighs an inch, how much more by cut, up, near.
        int[][] due = {{0, 20, 20, 1, 10}, {19, 20, 1, 2, 11}, {20, 20, 20, 1, 10}, {21, 20, 19, 20, 9}, {0, 1, 1, 1, 1},
            {7, 5, 3, 4, 1}, {8, 5, 2, 3, 5}, {2, 5, 3, 4, 1}, {3, 5, 2, 3, 5}};
        String[] how = {"cut", "up", "near"};
        for (int[] c : due) {
            for (int i = 0; i < 3; i++) {
                HalfMast x = Check.in("person a plain lacks " + c[0] + " ; weighs " + c[1] + " ; rounds " + how[i] + " ;");
                CHECK.due("even " + c[0] + " by " + c[1] + " " + how[i], x.even(), c[2 + i]);
            }
        }
        CHECK.due("at 0", Check.in("person a plain lacks 9 ; mast 1 ; weighs 9 ;").even(), 0);
        CHECK.due("an inch above it", Check.in("person a plain lacks 8 ; mast 1 ; weighs 9 ;").even(), 1);
    }
}
