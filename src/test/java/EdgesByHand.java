/** Promises 5 to 12, high, person, lose, get, spare, feel, day, undo: boundary cases. */
final class EdgesByHand {
    private static final int NONE = HalfMast.NONE;
    private static final int[] NOBODY = {-1, 6, 7, 31, 32, 63, 64, Edges.LEAST_INT, Edges.MOST_INT};

    private final Edges edges;

    EdgesByHand(Edges edges) {
        this.edges = edges;
    }

    void all() {
        edges.of(5, "cut, or up (to the next whole one), or near (to the nearest, the half up)", this::rounding);
        edges.of(5, "The flag is lowered by what all WEIGH, together, through what weighs an inch", this::allTogether);
        edges.of(5, "it stands so much below the mast, at 0 at least", this::at0AtLeast);
        edges.of(5, "How high the flag stands.", this::howHigh);
        edges.of(6, "A PERSON WEIGHS: plain what they lack, a lover 10 more (if anything is lacking), a widow twice as much, "
                + "a child the half, cut.", this::weighing);
        edges.of(6, "what 0: KIND (0 plain, 1 lover, 2 widow, 3 child), 1: lacks, 2: WEIGHS, 3: whom they feel, as bits; "
                + "-2: others.", this::personOthers);
        edges.of(7, "LOSE: one lacks so much more, 60 at most.", this::losingTo60);
        edges.of(7, "LOSE (1 to 20): what is lacking then; NONE: others.", this::loseOthers);
        edges.of(8, "GET: so much less, 0 at least.", this::gettingTo0);
        edges.of(8, "GET (1 to 20): what is lacking then; NONE: others.", this::getOthers);
        edges.of(9, "SPARE: nothing.", this::sparing);
        edges.of(9, "SPARE: by how much the flag moves up; NONE: others.", this::spareOthers);
        edges.of(10, "FEEL: the first one feels the second one from then on, or does not any more.", this::feeling);
        edges.of(10, "FEEL: true; false: others, the same.", this::feelOthers);
        edges.of(11, "as the E of fares tells, from -9 to 9 (less than 0: less)", this::nineAtMost);
        edges.of(11, "of 0 to 60 (all by what was ahead). It is the next day.", this::of0To60);
        edges.of(11, "DAY: by how much the flag moves up (less than 0: down).", this::howMuchByDay);
        edges.of(12, "UNDO: all of these, the last 16, one by one.", this::theLast16);
        edges.of(12, "UNDO: all of these", this::eachCanBeUndone);
        edges.of(12, "UNDO: true; false: nothing can be.", this::nothingCanBe);
    }

    // ---- high, person ----

    private void rounding() {
        String[] how = {"cut", "up", "near"};
        // What is lacking, what weighs an inch, then the inches by each way: one below, on, one above each step.
        int[][] due = {{0, 20, 0, 0, 0}, {1, 20, 0, 1, 0}, {9, 20, 0, 1, 0}, {10, 20, 0, 1, 1}, {11, 20, 0, 1, 1}, {19, 20, 0, 1, 1},
            {20, 20, 1, 1, 1}, {21, 20, 1, 2, 1}, {29, 20, 1, 2, 1}, {30, 20, 1, 2, 2}, {40, 20, 2, 2, 2}, {2, 5, 0, 1, 0},
            {3, 5, 0, 1, 1}, {4, 5, 0, 1, 1}, {5, 5, 1, 1, 1}, {6, 5, 1, 2, 1}, {7, 5, 1, 2, 1}, {8, 5, 1, 2, 2}, {0, 1, 0, 0, 0},
            {1, 1, 1, 1, 1}, {60, 1, 60, 60, 60}, {1, 2, 0, 1, 1}, {2, 2, 1, 1, 1}, {3, 2, 1, 2, 2}, {59, 19, 3, 4, 3}, {60, 19, 3, 4, 3}};
        for (int[] c : due) {
            for (int i = 0; i < 3; i++) {
                HalfMast x = edges.town("person a plain lacks " + c[0] + ";weighs " + c[1] + ";mast 70;rounds " + how[i] + ";");
                edges.due(c[0] + " by " + c[1] + " " + how[i], x.high(), 70 - c[2 + i]);
            }
        }
    }

    private void allTogether() {
        String[] how = {"cut", "up", "near"};
        // Six who lack alike, 6 an inch: it is rounded once, not for each of them.
        int[][] due = {{0, 0, 0, 0}, {1, 1, 1, 1}, {2, 2, 2, 2}, {3, 3, 3, 3}, {5, 5, 5, 5}};
        for (int[] c : due) {
            for (int i = 0; i < 3; i++) {
                HalfMast x = edges.town(Edges.persons("plain", c[0], c[0], c[0], c[0], c[0], c[0]) + "rounds " + how[i] + ";");
                edges.due("six by " + c[0] + " " + how[i], x.high(), 40 - c[1 + i]);
            }
        }
        for (int i = 0; i < 3; i++) {
            HalfMast x = edges.town(Edges.persons("plain", 1, 1, 1, 1, 1) + "rounds " + how[i] + ";");
            edges.due("five by 1 " + how[i], x.high(), i == 0 ? 40 : 39);
        }
    }

    private void at0AtLeast() {
        int[][] due = {{8, 1}, {9, 0}, {10, 0}, {60, 0}, {0, 9}};
        for (int[] c : due) {
            edges.due(c[0] + " lacking", edges.one(9, c[0], "0").high(), c[1]);
        }
        edges.due("just above it, cut", edges.town("person a plain lacks 19;mast 1;weighs 20;").high(), 1);
        edges.due("just at it, up", edges.town("person a plain lacks 1;mast 1;weighs 20;rounds up;").high(), 0);
        edges.due("above it, near", edges.town("person a plain lacks 9;mast 1;weighs 20;rounds near;").high(), 1);
        edges.due("at it, near", edges.town("person a plain lacks 10;mast 1;weighs 20;rounds near;").high(), 0);
        edges.due("720 weigh", edges.town(Edges.persons("widow", 60, 60, 60, 60, 60, 60) + "mast 99;weighs 1;").high(), 0);
        edges.due("720 by 20", edges.town(Edges.persons("widow", 60, 60, 60, 60, 60, 60) + "mast 99;weighs 20;").high(), 63);
    }

    private void howHigh() {
        edges.due("nobody", new HalfMast().high(), 40);
        edges.due("the lowest mast", edges.town("mast 1;").high(), 1);
        edges.due("the highest mast", edges.town("mast 99;").high(), 99);
        edges.changesNothing("high()", x -> x.high());
    }

    private void weighing() {
        String[] kinds = {"plain", "lover", "widow", "child"};
        int[][] due = {{0, 0, 0, 0, 0}, {1, 1, 11, 2, 0}, {2, 2, 12, 4, 1}, {3, 3, 13, 6, 1}, {59, 59, 69, 118, 29}, {60, 60, 70, 120, 30}};
        for (int[] c : due) {
            for (int i = 0; i < 4; i++) {
                HalfMast x = edges.town("person a " + kinds[i] + " lacks " + c[0] + ";");
                edges.due(kinds[i] + " who lacks " + c[0], x.person(0, 2), c[1 + i]);
                edges.due("all WEIGH", x.count(6), c[1 + i]);
            }
        }
        HalfMast x = edges.town("person a lover lacks 1;person b lover lacks 0;");
        x.get(0, 1);
        x.lose(1, 1);
        edges.due("nothing is lacking any more", x.person(0, 2), 0);
        edges.due("something is lacking now", x.person(1, 2), 11);
        edges.due("each child cut for itself", edges.town(Edges.persons("child", 1, 1, 1, 3)).count(6), 1);
    }

    private void personOthers() {
        HalfMast x = edges.town(Edges.persons("child", 9, 8, 7, 6, 5, 4) + "feels f a;feels a f;");
        int[][] due = {{0, 0, 3}, {0, 1, 9}, {0, 2, 4}, {0, 3, 32}, {5, 0, 3}, {5, 1, 4}, {5, 2, 2}, {5, 3, 1}, {4, 3, 0}};
        for (int[] c : due) {
            edges.due("person(" + c[0] + ", " + c[1] + ")", x.person(c[0], c[1]), c[2]);
        }
        for (int person : NOBODY) {
            for (int what = -1; what <= 4; what++) {
                int asked = what;
                edges.refused("person(" + person + ", " + what + ")", y -> y.person(person, asked), -2);
            }
        }
        for (int wrong : new int[] {-1, 4, Edges.LEAST_INT, Edges.MOST_INT}) {
            edges.refused("person(0, " + wrong + ")", y -> y.person(0, wrong), -2);
        }
        edges.refusedIn(Busy.SOME, "person(3, 1), of three", y -> y.person(3, 1), -2);
        edges.refusedIn(Busy.NEW, "person(0, 1), of none", y -> y.person(0, 1), -2);
        edges.changesNothing("person(0, 2)", y -> y.person(0, 2));
    }

    // ---- lose, get, spare, feel ----

    private void losingTo60() {
        int[][] due = {{0, 1, 1}, {0, 20, 20}, {39, 20, 59}, {40, 20, 60}, {41, 20, 60}, {58, 1, 59}, {59, 1, 60}, {60, 1, 60}, {60, 20, 60}};
        for (int[] c : due) {
            HalfMast x = edges.one(99, c[0], "0");
            edges.due("at " + c[0] + " lose " + c[1], x.lose(0, c[1]), c[2]);
            edges.due("lacks", x.person(0, 1), c[2]);
            edges.due("high", x.high(), 99 - c[2]);
            edges.due("it can be undone", x.undo(), true);
            edges.due("as ahead", x.person(0, 1), c[0]);
        }
    }

    private void loseOthers() {
        HalfMast x = edges.town(Edges.persons("plain", 5, 5, 5, 5, 5, 5));
        edges.due("the least, of the first", x.lose(0, 1), 6);
        edges.due("the most, of the last", x.lose(5, 20), 25);
        edges.due("nobody else", x.count(5), 51);
        for (int wrong : new int[] {0, 21, -1, -20, Edges.LEAST_INT, Edges.MOST_INT}) {
            edges.refused("lose(0, " + wrong + ")", y -> y.lose(0, wrong), NONE);
        }
        for (int person : NOBODY) {
            edges.refused("lose(" + person + ", 1)", y -> y.lose(person, 1), NONE);
        }
        edges.refusedIn(Busy.SOME, "lose(3, 1), of three", y -> y.lose(3, 1), NONE);
        edges.refusedIn(Busy.NEW, "lose(0, 1), of none", y -> y.lose(0, 1), NONE);
    }

    private void gettingTo0() {
        int[][] due = {{0, 1, 0}, {0, 20, 0}, {1, 1, 0}, {2, 1, 1}, {19, 20, 0}, {20, 20, 0}, {21, 20, 1}, {60, 20, 40}, {60, 1, 59}};
        for (int[] c : due) {
            HalfMast x = edges.one(99, c[0], "0");
            edges.due("at " + c[0] + " get " + c[1], x.get(0, c[1]), c[2]);
            edges.due("lacks", x.person(0, 1), c[2]);
            edges.due("high", x.high(), 99 - c[2]);
            edges.due("it can be undone", x.undo(), true);
            edges.due("as ahead", x.person(0, 1), c[0]);
        }
    }

    private void getOthers() {
        HalfMast x = edges.town(Edges.persons("plain", 25, 25, 25, 25, 25, 25));
        edges.due("the least, of the first", x.get(0, 1), 24);
        edges.due("the most, of the last", x.get(5, 20), 5);
        edges.due("nobody else", x.count(5), 129);
        for (int wrong : new int[] {0, 21, -1, -20, Edges.LEAST_INT, Edges.MOST_INT}) {
            edges.refused("get(0, " + wrong + ")", y -> y.get(0, wrong), NONE);
        }
        for (int person : NOBODY) {
            edges.refused("get(" + person + ", 1)", y -> y.get(person, 1), NONE);
        }
        edges.refusedIn(Busy.SOME, "get(3, 1), of three", y -> y.get(3, 1), NONE);
        edges.refusedIn(Busy.NEW, "get(0, 1), of none", y -> y.get(0, 1), NONE);
    }

    private void sparing() {
        for (int lacks : new int[] {0, 1, 59, 60}) {
            HalfMast x = edges.one(99, lacks, "0");
            edges.due("spare who lacks " + lacks, x.spare(0), lacks);
            edges.due("lacks nothing", x.person(0, 1), 0);
            edges.due("at the mast", x.high(), 99);
            edges.due("it can be undone", x.undo(), true);
            edges.due("as ahead", x.person(0, 1), lacks);
        }
    }

    private void spareOthers() {
        HalfMast x = edges.town(Edges.persons("widow", 60, 60, 1, 0, 0, 60) + "weighs 1;mast 99;");
        edges.due("below the ground it stays", x.spare(0), 0);
        edges.due("still", x.spare(1), 0);
        edges.due("nothing is lacking", x.spare(4), 0);
        edges.due("2 of 122", x.spare(2), 0);
        edges.due("from the ground to the mast", x.spare(5), 99);
        edges.due("less than an inch", edges.town("person a plain lacks 5;").spare(0), 0);
        edges.due("just an inch", edges.town("person a plain lacks 6;").spare(0), 1);
        for (int person : NOBODY) {
            edges.refused("spare(" + person + ")", y -> y.spare(person), NONE);
        }
        edges.refusedIn(Busy.SOME, "spare(3), of three", y -> y.spare(3), NONE);
        edges.refusedIn(Busy.NEW, "spare(0), of none", y -> y.spare(0), NONE);
    }

    private void feeling() {
        HalfMast x = edges.town(Edges.persons("plain", 1, 1, 1, 1, 1, 1) + "feels a f;");
        edges.due("he does: not any more", x.feel(0, 5), true);
        edges.due("nobody", x.person(0, 3), 0);
        edges.due("from then on again", x.feel(0, 5), true);
        edges.due("f", x.person(0, 3), 32);
        edges.due("the other way", x.feel(5, 0), true);
        edges.due("a", x.person(5, 3), 1);
        edges.due("a's is as it was", x.person(0, 3), 32);
        for (int i = 1; i < 5; i++) {
            x.feel(0, i);
        }
        edges.due("all others", x.person(0, 3), 62);
        edges.due("the flag stays", x.high(), 39);
    }

    private void feelOthers() {
        for (int i = 0; i < 6; i++) {
            int same = i;
            edges.refused("feel(" + i + ", " + i + ")", y -> y.feel(same, same) ? 1 : 0, 0);
        }
        for (int person : NOBODY) {
            edges.refused("feel(" + person + ", 0)", y -> y.feel(person, 0) ? 1 : 0, 0);
            edges.refused("feel(0, " + person + ")", y -> y.feel(0, person) ? 1 : 0, 0);
            edges.refused("feel(" + person + ", the same)", y -> y.feel(person, person) ? 1 : 0, 0);
        }
        edges.refusedIn(Busy.SOME, "feel(0, 3), of three", y -> y.feel(0, 3) ? 1 : 0, 0);
        edges.refusedIn(Busy.SOME, "feel(3, 0), of three", y -> y.feel(3, 0) ? 1 : 0, 0);
        edges.refusedIn(Busy.NEW, "feel(0, 1), of none", y -> y.feel(0, 1) ? 1 : 0, 0);
    }

    // ---- day ----

    private void nineAtMost() {
        String[] laws = {"0", "1", "8", "9", "10", "9999", "0-1", "0-8", "0-9", "0-10", "0-9999"};
        int[] due = {0, 1, 8, 9, 9, 9, -1, -8, -9, -9, -9};
        for (int i = 0; i < laws.length; i++) {
            HalfMast x = edges.one(99, 30, laws[i]);
            edges.due("fares " + laws[i], x.day(), -due[i]);
            edges.due("lacks", x.person(0, 1), 30 + due[i]);
        }
    }

    private void of0To60() {
        int[][] due = {{50, 9, 59}, {51, 9, 60}, {52, 9, 60}, {59, 1, 60}, {60, 1, 60}, {60, 9, 60}, {10, -9, 1}, {9, -9, 0}, {8, -9, 0},
            {1, -1, 0}, {0, -1, 0}, {0, -9, 0}};
        for (int[] c : due) {
            HalfMast x = edges.one(99, c[0], c[1] < 0 ? "0-" + -c[1] : "" + c[1]);
            x.day();
            edges.due("at " + c[0] + " by " + c[1], x.person(0, 1), c[2]);
            edges.due("the next day", x.count(4), 1);
        }
        // Each by what was ahead: a and f see one another as they were.
        HalfMast x = edges.town(Edges.persons("plain", 5, 0, 0, 0, 0, 6) + "feels a f;feels f a;fares felt*9-3;");
        x.day();
        edges.due("a", x.person(0, 1), 11);
        edges.due("f", x.person(5, 1), 3);
        x = edges.town(Edges.persons("plain", 4, 4) + "mast 9;weighs 1;fares high;");
        x.day();
        edges.due("the height of the day ahead, for the first one", x.person(0, 1), 5);
        edges.due("the height of the day ahead, for the last one", x.person(1, 1), 5);
    }

    private void howMuchByDay() {
        edges.due("nobody", new HalfMast().day(), 0);
        String six = Edges.persons("widow", 0, 0, 0, 0, 0, 0) + "weighs 1;mast 99;";
        edges.due("108 weigh: to the ground", edges.town(six + "fares 9;").day(), -99);
        edges.due("an inch down", edges.one(99, 5, "1").day(), -1);
        edges.due("as it was", edges.one(99, 5, "0").day(), 0);
        edges.due("an inch up", edges.one(99, 5, "0-1").day(), 1);
        String heavy = Edges.persons("widow", 9, 9, 9, 9, 9, 9) + "weighs 1;mast 99;";
        edges.due("up to the mast", edges.town(heavy + "fares 0-9;").day(), 99);
        edges.due("below the ground it stays", edges.one(1, 50, "0-9").day(), 0);
        edges.due("from the ground", edges.one(50, 50, "0-9").day(), 9);
        HalfMast x = new HalfMast();
        x.day();
        edges.due("a day with nobody is a day", x.count(4), 1);
        edges.due("and can be undone", x.count(11), 1);
    }

    // ---- undo ----

    private void theLast16() {
        for (int deeds : new int[] {1, 15, 16, 17, 40}) {
            HalfMast x = edges.one(99, 0, "1");
            Edges.times(deeds, x::day);
            int can = Math.min(deeds, 16);
            edges.due("behind " + deeds, x.count(11), can);
            for (int i = 1; i <= can; i++) {
                edges.due("undo", x.undo(), true);
                edges.due("one by one", x.count(4), deeds - i);
                edges.due("one by one: lacks", x.person(0, 1), deeds - i);
                edges.due("one by one: left", x.count(11), can - i);
            }
            edges.due("no more", x.undo(), false);
            edges.due("and it stays", x.count(4), deeds - can);
        }
        HalfMast x = edges.one(99, 0, "1");
        Edges.times(20, x::day);
        Edges.times(10, () -> x.undo() ? 1 : 0);
        Edges.times(12, () -> x.lose(0, 1));
        edges.due("six of the old ones, twelve of the new ones: 16", x.count(11), 16);
        Edges.times(16, () -> x.undo() ? 1 : 0);
        edges.due("twelve and four", x.count(4), 6);
        edges.due("lacks", x.person(0, 1), 6);
        edges.due("no more", x.undo(), false);
    }

    private void eachCanBeUndone() {
        HalfMast x = edges.town(Edges.persons("plain", 20, 0, 7) + "feels a b;weighs 1;fares 1;");
        x.lose(0, 5);
        x.get(2, 5);
        x.spare(0);
        x.feel(0, 1);
        x.feel(1, 2);
        x.day();
        x.spare(1);
        x.spare(1);
        edges.due("eight, one of which changed nobody", x.count(11), 8);
        // How much a, b, c lack, whom a and b feel, and the day, going back.
        int[][] due = {{1, 0, 3, 0, 4, 1}, {1, 1, 3, 0, 4, 1}, {0, 0, 2, 0, 4, 0}, {0, 0, 2, 0, 0, 0}, {0, 0, 2, 2, 0, 0},
            {25, 0, 2, 2, 0, 0}, {25, 0, 7, 2, 0, 0}, {20, 0, 7, 2, 0, 0}};
        for (int[] c : due) {
            edges.due("undo", x.undo(), true);
            int[] got = {x.person(0, 1), x.person(1, 1), x.person(2, 1), x.person(0, 3), x.person(1, 3), x.count(4)};
            for (int i = 0; i < c.length; i++) {
                edges.due("going back, " + i, got[i], c[i]);
            }
            edges.due("the flag, too", x.high(), Math.max(0, 40 - c[0] - c[1] - c[2]));
        }
        edges.due("no more", x.undo(), false);
    }

    private void nothingCanBe() {
        edges.refusedIn(Busy.NEW, "undo(), nothing was done", x -> x.undo() ? 1 : 0, 0);
        HalfMast x = edges.one(99, 5, "1");
        x.see(0, 90);
        x.measure(0, 90);
        x.mark(1, false);
        x.later(5);
        x.lose(0, 0);
        x.get(1, 5);
        x.feel(0, 0);
        x.spare(1);
        edges.year(x, "day;");
        x.judged(0);
        x.years(1, 9, 0);
        edges.due("none of these can be", x.undo(), false);
        edges.due("SEEN stays", x.count(9), 1);
        edges.due("MEASURED stays", x.count(10), 1);
        edges.due("the YEAR stays", x.count(8), 1);
        x.day();
        edges.due("a DAY can be", x.undo(), true);
        edges.due("once", x.undo(), false);
        x.day();
        x.mark(1, true);
        edges.due("a MARK was gone back to", x.undo(), false);
        x.day();
        Check.town(x, "mast 5;");
        edges.due("a TOWN was told", x.undo(), false);
    }
}
