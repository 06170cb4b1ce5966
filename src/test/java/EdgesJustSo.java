/** Promises 19 to 22, 41 and 42, spared, least, cost, heavy, pair, even: boundary cases. */
final class EdgesJustSo {
    private static final int NONE = HalfMast.NONE;
    private static final int NOBODY_CAN = -1000;
    private static final int[] NOBODY = {-1, 6, 7, 64, Edges.LEAST_INT, Edges.MOST_INT};

    private final Edges edges;

    EdgesJustSo(Edges edges) {
        this.edges = edges;
    }

    void all() {
        edges.of(19, "SPARED for a height (1 to 99): the fewest who must be SPARED now so that it stands so high, or higher; "
                + "of equal ones the least set (bits).", this::spared);
        edges.of(19, "SPARED, as bits; NONE: others, by none.", this::sparedOthers);
        edges.of(20, "LEAST for a height (0 to 99): the least that one PERSON must lack more, or less, now (of 0 to 60) so that "
                + "it stands just so (0: it does)", this::least);
        edges.of(20, "how much (less than 0: less); who; of equal ones more, then the first.", this::leastOfEqualOnes);
        edges.of(20, "LEAST, what 0: how much, 1: who (NONE: nobody need); -1000: others, by nobody.", this::leastOthers);
        edges.of(21, "COST of a PERSON: the least that they must lack less now so that it moves up.", this::cost);
        edges.of(21, "COST; NONE: others, by none.", this::costOthers);
        edges.of(22, "HEAVY: who WEIGHS the most; of equal ones the first.", this::heavy);
        edges.of(22, "HEAVY; NONE: nobody.", this::heavyNobody);
        edges.of(41, "PAIR: the two PERSONS, SPARED both now, by whom it stands the highest now; of equal ones the first by the "
                + "lesser, then the other one.", this::pair);
        edges.of(41, "NONE: no two there are.", this::noTwo);
        edges.of(42, "EVEN: how much more all must WEIGH, at least, so that it stands lower (0: it stands at 0).", this::even);
    }

    private void spared() {
        // 1 to 6 lacking, 21 together: it stands at 9.
        HalfMast x = edges.town(Edges.persons("plain", 1, 2, 3, 4, 5, 6) + "weighs 1;mast 30;");
        int[][] due = {{1, 0}, {8, 0}, {9, 0}, {10, 1}, {11, 2}, {12, 4}, {13, 8}, {14, 16}, {15, 32}, {16, 12}, {20, 48}, {21, 28},
            {24, 56}, {25, 54}, {27, 60}, {28, 61}, {29, 62}, {30, 63}, {31, NONE}, {99, NONE}};
        for (int[] c : due) {
            edges.due("spared(" + c[0] + ")", x.spared(c[0]), c[1]);
        }
        x = edges.town(Edges.persons("plain", 5, 5, 5, 5, 5, 5) + "weighs 5;mast 99;");
        int[] least = {0, 1, 3, 7, 15, 31, 63};
        for (int i = 0; i <= 6; i++) {
            edges.due("of equal ones the least set, " + i, x.spared(93 + i), least[i]);
        }
        x = edges.town(Edges.persons("plain", 5, 5, 10) + "weighs 5;mast 99;");
        edges.due("the fewest, though another set is less", x.spared(97), 4);
        edges.due("or higher", edges.town(Edges.persons("plain", 50) + "weighs 1;mast 99;").spared(60), 1);
        edges.due("as told by the rounding", edges.town("person a plain lacks 1;rounds up;").spared(40), 1);
        edges.due("who lacks nothing is none of them", edges.town(Edges.persons("plain", 0, 6)).spared(40), 2);
    }

    private void sparedOthers() {
        edges.due("1 is a height", edges.one(1, 1, "0").spared(1), 1);
        edges.due("99 is a height", edges.one(99, 1, "0").spared(99), 1);
        edges.due("above the mast", edges.one(98, 1, "0").spared(99), NONE);
        edges.due("nobody there is, and none need be", new HalfMast().spared(40), 0);
        edges.due("nobody there is", new HalfMast().spared(41), NONE);
        for (int wrong : new int[] {0, 100, -1, 101, Edges.LEAST_INT, Edges.MOST_INT}) {
            edges.refused("spared(" + wrong + ")", x -> x.spared(wrong), NONE);
        }
        edges.changesNothing("spared(1)", x -> x.spared(1));
        edges.changesNothing("spared(50)", x -> x.spared(50));
        edges.changesNothing("spared(99)", x -> x.spared(99));
    }

    private void least() {
        HalfMast x = edges.one(99, 30, "0");
        int[][] due = {{69, 0}, {68, 1}, {70, -1}, {40, 29}, {39, 30}, {38, NOBODY_CAN}, {98, -29}, {99, -30}, {0, NOBODY_CAN}};
        for (int[] c : due) {
            edges.due("least(" + c[0] + ", 0)", x.least(c[0], 0), c[1]);
            edges.due("least(" + c[0] + ", 1)", x.least(c[0], 1), c[1] == 0 ? NONE : c[1] == NOBODY_CAN ? NOBODY_CAN : 0);
        }
        edges.due("60 more", edges.one(99, 0, "0").least(39, 0), 60);
        edges.due("61 can't be", edges.one(99, 0, "0").least(38, 0), NOBODY_CAN);
        edges.due("60 less", edges.one(99, 60, "0").least(99, 0), -60);
        edges.due("above the mast", edges.one(98, 60, "0").least(99, 0), NOBODY_CAN);
        edges.due("the ground", edges.one(20, 5, "0").least(0, 0), 15);
        edges.due("it is at the ground", edges.one(20, 50, "0").least(0, 0), 0);
        edges.due("an inch from below the ground", edges.one(20, 50, "0").least(1, 0), -31);
        edges.due("just so: a widow's are two each", edges.town("person a widow lacks 5;weighs 1;").least(29, 0), NOBODY_CAN);
        edges.due("just so: a widow's", edges.town("person a widow lacks 5;weighs 1;").least(28, 0), 1);
        edges.due("just so: a lover's first", edges.town("person a lover lacks 0;weighs 1;").least(39, 0), NOBODY_CAN);
        edges.due("just so: a lover's first", edges.town("person a lover lacks 0;weighs 1;").least(29, 0), 1);
        edges.due("a child's half", edges.town("person a child lacks 1;weighs 1;").least(39, 0), 1);
        x.lose(0, 20);
        edges.due("now: 50 are lacking", x.least(39, 0), 10);
    }

    private void leastOfEqualOnes() {
        HalfMast x = edges.town(Edges.persons("plain", 9, 9, 9, 9, 9, 9) + "weighs 1;mast 99;");
        edges.due("less, the first", x.least(46, 1), 0);
        edges.due("more, the first", x.least(44, 1), 0);
        x.spare(0);
        edges.due("the first has nothing to get, so the next one", x.least(55, 1), 1);
        edges.due("more, the first", x.least(53, 1), 0);
        x = edges.town(Edges.persons("plain", 60, 60, 59) + "weighs 2;mast 99;");
        edges.due("none but the last can lack more", x.least(9, 1), 2);
        edges.due("one more", x.least(9, 0), 1);
        x = edges.town("person a plain lacks 9;person b widow lacks 9;weighs 4;mast 99;");
        // 27 weigh, six inches and 3: one by a, or one by b.
        edges.due("both can, the first", x.least(92, 1), 0);
        x = edges.town("person a plain lacks 8;person b widow lacks 9;weighs 4;mast 99;");
        // 26 weigh: two by a, one by b.
        edges.due("the least, though not the first", x.least(92, 1), 1);
        edges.due("the least", x.least(92, 0), 1);
        // The flag never goes up by more nor down by less, so that no more ever equals a less.
        x = edges.one(40, 20, "0");
        for (int height = 0; height < 20; height++) {
            edges.due("more", x.least(height, 0), 20 - height);
        }
        for (int height = 21; height <= 40; height++) {
            edges.due("less", x.least(height, 0), 20 - height);
        }
    }

    private void leastOthers() {
        edges.due("0 is a height", edges.one(9, 9, "0").least(0, 0), 0);
        edges.due("99 is a height", edges.one(99, 0, "0").least(99, 0), 0);
        edges.due("nobody need", edges.one(99, 0, "0").least(99, 1), NONE);
        edges.due("nobody there is, and nobody need", new HalfMast().least(40, 1), NONE);
        edges.due("nobody there is", new HalfMast().least(39, 0), NOBODY_CAN);
        edges.due("nobody there is", new HalfMast().least(39, 1), NOBODY_CAN);
        for (int what = 0; what <= 1; what++) {
            for (int wrong : new int[] {-1, 100, Edges.LEAST_INT, Edges.MOST_INT}) {
                int asked = what;
                edges.refused("least(" + wrong + ", " + what + ")", x -> x.least(wrong, asked), NOBODY_CAN);
            }
        }
        for (int wrong : new int[] {-1, 2, Edges.LEAST_INT, Edges.MOST_INT}) {
            edges.refused("least(40, " + wrong + ")", x -> x.least(40, wrong), NOBODY_CAN);
            edges.refused("least(its height, " + wrong + ")", x -> x.least(x.high(), wrong), NOBODY_CAN);
        }
        edges.changesNothing("least(0, 0)", x -> x.least(0, 0));
        edges.changesNothing("least(99, 1)", x -> x.least(99, 1));
    }

    private void cost() {
        edges.due("1", edges.one(99, 30, "0").cost(0), 1);
        edges.due("all of 60", edges.one(1, 60, "0").cost(0), 60);
        edges.due("all but one of 60", edges.one(2, 60, "0").cost(0), 59);
        edges.due("all of 1", edges.one(99, 1, "0").cost(0), 1);
        edges.due("a lover's last", edges.town("person a lover lacks 9;weighs 10;").cost(0), 9);
        edges.due("a child's half", edges.town("person a child lacks 2;weighs 1;").cost(0), 1);
        edges.due("a child's whole", edges.town("person a child lacks 3;weighs 1;").cost(0), 2);
        edges.due("a widow's, by cut", edges.town("person a widow lacks 10;weighs 20;").cost(0), 1);
        int[][] due = {{40, 1, 20, 11}, {41, 2, 1, 12}, {59, 20, 19, 10}, {20, 1, 20, 11}, {30, 11, 10, 1}, {29, 10, 9, 20}};
        String[] how = {"cut", "up", "near"};
        for (int[] c : due) {
            for (int i = 0; i < 3; i++) {
                HalfMast x = edges.town("person a plain lacks " + c[0] + ";weighs 20;rounds " + how[i] + ";");
                edges.due("cost, " + c[0] + " by 20 " + how[i], x.cost(0), c[1 + i]);
            }
        }
    }

    private void costOthers() {
        edges.due("at the mast", edges.town("person a plain lacks 5;").cost(0), NONE);
        edges.due("just below it", edges.town("person a plain lacks 6;").cost(0), 1);
        edges.due("nothing is lacking", edges.town(Edges.persons("plain", 0, 60)).cost(0), NONE);
        edges.due("not enough", edges.town(Edges.persons("plain", 5, 11)).cost(0), 5);
        edges.due("one too few", edges.town(Edges.persons("plain", 4, 11)).cost(0), 4);
        edges.due("two too few", edges.town(Edges.persons("plain", 3, 8)).cost(0), NONE);
        edges.due("from far below the ground", edges.town(Edges.persons("plain", 60, 60) + "mast 1;weighs 1;").cost(1), NONE);
        edges.due("the last one", edges.town(Edges.persons("plain", 0, 0, 0, 0, 0, 7) + "weighs 1;").cost(5), 1);
        for (int wrong : NOBODY) {
            edges.refused("cost(" + wrong + ")", x -> x.cost(wrong), NONE);
        }
        edges.refusedIn(Busy.SOME, "cost(3), of three", x -> x.cost(3), NONE);
        edges.refusedIn(Busy.NEW, "cost(0), of none", x -> x.cost(0), NONE);
        edges.changesNothing("cost(0)", x -> x.cost(0));
    }

    private void heavy() {
        edges.due("the first", edges.town(Edges.persons("plain", 9, 8, 8, 8, 8, 8)).heavy(), 0);
        edges.due("the last", edges.town(Edges.persons("plain", 8, 8, 8, 8, 8, 9)).heavy(), 5);
        edges.due("of equal ones the first", edges.town(Edges.persons("plain", 8, 9, 9, 9, 8, 9)).heavy(), 1);
        edges.due("of all nothing the first", edges.town(Edges.persons("lover", 0, 0, 0)).heavy(), 0);
        edges.due("children who weigh nothing", edges.town(Edges.persons("child", 0, 1)).heavy(), 0);
        edges.due("WEIGHS, not lacks",
                edges.town("person a plain lacks 21;person b lover lacks 11;person c widow lacks 11;person d child lacks 44;").heavy(), 2);
        edges.due("alike by weight, the first",
                edges.town("person a child lacks 23;person b lover lacks 1;person c plain lacks 11;").heavy(), 0);
    }

    private void heavyNobody() {
        edges.refusedIn(Busy.NEW, "heavy(), nobody", x -> x.heavy(), NONE);
        edges.due("one who lacks nothing is somebody", edges.one(99, 0, "0").heavy(), 0);
        edges.changesNothing("heavy()", x -> x.heavy());
    }

    private void pair() {
        String fine = "weighs 1;mast 99;";
        edges.due("of two", edges.town(Edges.persons("plain", 0, 0)).pair(), 1);
        edges.due("the first two", edges.town(Edges.persons("plain", 9, 9, 1, 1, 1, 1) + fine).pair(), 1);
        edges.due("the last two", edges.town(Edges.persons("plain", 1, 1, 1, 1, 9, 9) + fine).pair(), 8 * 4 + 5);
        edges.due("the first and the last", edges.town(Edges.persons("plain", 9, 1, 1, 1, 1, 9) + fine).pair(), 5);
        edges.due("of equal ones the lesser", edges.town(Edges.persons("plain", 1, 9, 9, 9, 1, 9) + fine).pair(), 8 + 2);
        edges.due("then the other one", edges.town(Edges.persons("plain", 1, 9, 1, 1, 1, 1) + fine).pair(), 1);
        edges.due("then the other one", edges.town(Edges.persons("plain", 9, 1, 2, 2, 1, 1) + fine).pair(), 2);
        edges.due("all alike", edges.town(Edges.persons("plain", 0, 0, 0, 0, 0, 0)).pair(), 1);
        edges.due("all at the ground", edges.town(Edges.persons("widow", 40, 60, 60, 60) + "mast 1;weighs 1;").pair(), 1);
        edges.due("alike by the inch", edges.town(Edges.persons("plain", 6, 6, 7, 7)).pair(), 1);
        edges.due("an inch more", edges.town(Edges.persons("plain", 6, 6, 12, 12)).pair(), 8 * 2 + 3);
        edges.changesNothing("pair()", x -> x.pair());
    }

    private void noTwo() {
        edges.refusedIn(Busy.NEW, "pair(), nobody", x -> x.pair(), NONE);
        edges.due("one", edges.one(99, 9, "0").pair(), NONE);
        edges.due("two", edges.town(Edges.persons("plain", 9, 9)).pair(), 1);
    }

    private void even() {
        String[] how = {"cut", "up", "near"};
        // What is lacking, what weighs an inch, then how much more by each way.
        int[][] due = {{0, 20, 20, 1, 10}, {1, 20, 19, 20, 9}, {9, 20, 11, 12, 1}, {10, 20, 10, 11, 20}, {19, 20, 1, 2, 11},
            {20, 20, 20, 1, 10}, {21, 20, 19, 20, 9}, {0, 1, 1, 1, 1}, {39, 1, 1, 1, 1}, {0, 5, 5, 1, 3}, {2, 5, 3, 4, 1}, {3, 5, 2, 3, 5},
            {0, 2, 2, 1, 1}, {1, 2, 1, 2, 2}};
        for (int[] c : due) {
            for (int i = 0; i < 3; i++) {
                HalfMast x = edges.town("person a plain lacks " + c[0] + ";weighs " + c[1] + ";rounds " + how[i] + ";");
                edges.due("even, " + c[0] + " by " + c[1] + " " + how[i], x.even(), c[2 + i]);
            }
        }
        edges.due("an inch above the ground", edges.one(10, 9, "0").even(), 1);
        edges.due("at the ground", edges.one(10, 10, "0").even(), 0);
        edges.due("below the ground", edges.one(10, 11, "0").even(), 0);
        edges.due("more than one can lack", edges.town(Edges.persons("plain", 60) + "weighs 20;").even(), 20);
        edges.due("nobody", new HalfMast().even(), 6);
        edges.changesNothing("even()", x -> x.even());
    }
}
