import java.util.function.ToLongFunction;

/** Promises 23 to 27, see, ways, look, measure, rules: boundary cases. */
final class EdgesOfGuesses {
    private static final int NONE = HalfMast.NONE;
    private static final int[] NOT_0_TO_20 = {-1, 21, 60, Edges.LEAST_INT, Edges.MOST_INT};
    private static final int[] NOT_0_TO_99 = {-1, 100, Edges.LEAST_INT, Edges.MOST_INT};

    private final Edges edges;

    EdgesOfGuesses(Edges edges) {
        this.edges = edges;
    }

    void all() {
        edges.of(23, "SEEN: that behind so many (0 to 20) DAYS it stands so high (0 to 99)", this::seen);
        edges.of(23, "if one PERSON, an unknown one, LOST an unknown amount (1 to 20) now; 8 at most.", this::eightSeen);
        edges.of(23, "SEEN: true; false: others, 8 there are.", this::seeOthers);
        edges.of(24, "WAYS (a PERSON, an amount) by which all SEEN is so: how many; the PERSONS (bits); the least amount, "
                + "the greatest.", this::ways);
        edges.of(24, "LOST an unknown amount (1 to 20) now", this::amounts);
        edges.of(24, "what 0: how many, 1: PERSONS (bits), 2, 3: amounts; NONE: others, none (but 0, 1).", this::waysOthers);
        edges.of(25, "LOOK: the least number of DAYS (0 to 20) behind which the greatest number of WAYS by which it stands alike "
                + "is the least", this::look);
        edges.of(25, "if that is less than all.", this::lessThanAll);
        edges.of(25, "LOOK; NONE: none parts them.", this::nonePartsThem);
        edges.of(26, "MEASURED: that behind so many (0 to 20) DAYS it stands so high, if what weighs an inch, and how it is "
                + "rounded, were others; 8 at most.", this::measured);
        edges.of(26, "MEASURED: true; false: others, 8 there are.", this::measureOthers);
        edges.of(27, "RULES (1 to 20, three ways) by which all MEASURED is so: how many; the least weight; how it is rounded by "
                + "that (0 cut, 1 up, 2 near; the first).", this::rules);
        edges.of(27, "what 0: how many, 1: the least weight, 2: how it is rounded; NONE: others, none (but 0).", this::rulesOthers);
    }

    // ---- see, ways ----

    private void dueWays(String when, HalfMast x, int... due) {
        for (int what = 0; what < 4; what++) {
            edges.due(when + ", ways(" + what + ")", x.ways(what), due[what]);
        }
    }

    private void seen() {
        int[][] edge = {{0, 0}, {0, 99}, {20, 0}, {20, 99}, {1, 1}, {19, 98}};
        for (int[] c : edge) {
            HalfMast x = edges.one(99, 0, "0");
            edges.due("see(" + c[0] + ", " + c[1] + ")", x.see(c[0], c[1]), true);
            edges.due("it is SEEN", x.count(9), 1);
        }
        // By 1 it stands at 98 until the 20th DAY, and at 97 then.
        HalfMast x = edges.one(99, 0, "date = 19");
        x.see(20, 97);
        dueWays("behind 20", x, 1, 1, 1, 1);
        x = edges.one(99, 0, "date = 19");
        x.see(19, 98);
        dueWays("behind 19", x, 1, 1, 1, 1);
        x = edges.one(99, 0, "date = 20");
        x.see(20, 98);
        dueWays("the 21st DAY does not count", x, 1, 1, 1, 1);
        x = edges.one(99, 0, "date = 0");
        x.see(0, 98);
        dueWays("behind 0, now", x, 1, 1, 1, 1);
        x = edges.one(9, 0, "0");
        x.see(0, 0);
        dueWays("the ground", x, 12, 1, 9, 20);
        x = edges.town("person a child lacks 0;mast 99;weighs 1;fares 0;");
        x.see(0, 99);
        dueWays("the highest mast", x, 1, 1, 1, 1);
    }

    private void eightSeen() {
        HalfMast x = edges.one(99, 0, "0");
        for (int i = 1; i <= 8; i++) {
            edges.due("the same one again", x.see(3, 95), true);
            edges.due("how many", x.count(9), i);
        }
        edges.due("a ninth", x.see(3, 95), false);
        edges.due("eight", x.count(9), 8);
        dueWays("eight alike", x, 1, 1, 4, 4);
        HalfMast y = edges.one(99, 0, "1");
        for (int i = 0; i < 7; i++) {
            y.see(i, 90 - i);
        }
        dueWays("seven", y, 1, 1, 9, 9);
        edges.due("the eighth", y.see(20, 80), true);
        dueWays("the eighth counts", y, 0, 0, NONE, NONE);
        edges.due("the ninth", y.see(20, 70), false);
    }

    private void seeOthers() {
        dueOthers("see", (days, height) -> x -> x.see(days, height) ? 1 : 0);
        edges.refusedIn(Busy.FULL, "see(0, 50), 8 there are", x -> x.see(0, 50) ? 1 : 0, 0);
        edges.refusedIn(Busy.FULL, "see(20, 99), 8 there are", x -> x.see(20, 99) ? 1 : 0, 0);
        HalfMast x = Busy.SOME.made();
        int can = 8 - x.count(9);
        for (int i = 0; i < can; i++) {
            edges.due("room for it", x.see(0, 40), true);
        }
        edges.due("no room", x.see(0, 40), false);
        edges.due("MEASURED is apart", x.count(10), 1);
        x.mark(0, true);
        edges.due("back to when nothing was SEEN", x.see(0, 40), true);
        edges.due("one", x.count(9), 1);
        edges.due("nobody: it is SEEN all the same", new HalfMast().see(0, 40), true);
    }

    private interface Noting {
        ToLongFunction<HalfMast> by(int days, int height);
    }

    private void dueOthers(String call, Noting noting) {
        for (int wrong : NOT_0_TO_20) {
            edges.refused(call + "(" + wrong + ", 50)", noting.by(wrong, 50), 0);
        }
        for (int wrong : NOT_0_TO_99) {
            edges.refused(call + "(5, " + wrong + ")", noting.by(5, wrong), 0);
        }
        edges.refused(call + "(-1, -1)", noting.by(-1, -1), 0);
        edges.refused(call + "(21, 100)", noting.by(21, 100), 0);
    }

    private void ways() {
        HalfMast x = edges.town(Edges.persons("plain", 0, 0, 0, 0, 0, 0) + "weighs 1;mast 99;fares 0;");
        dueWays("nothing SEEN: all", x, 120, 63, 1, 20);
        x.see(0, 98);
        dueWays("the least amount", x, 6, 63, 1, 1);
        x = edges.town(Edges.persons("plain", 0, 0, 0, 0, 0, 0) + "weighs 1;mast 99;fares 0;");
        x.see(20, 79);
        dueWays("the greatest amount", x, 6, 63, 20, 20);
        x.see(20, 79);
        dueWays("SEEN twice", x, 6, 63, 20, 20);
        x.see(19, 80);
        dueWays("by none", x, 0, 0, NONE, NONE);
        x = edges.town("person a plain lacks 0;person b widow lacks 0;person c child lacks 0;person d lover lacks 0;weighs 1;mast 99;fares 0;");
        x.see(0, 89);
        dueWays("10 weigh: 10, 5 or 20, not a lover's", x, 3, 7, 5, 20);
        x = edges.town("person a lover lacks 0;person b plain lacks 0;weighs 1;mast 99;fares 0;");
        x.see(0, 88);
        dueWays("11 weigh: 1 of a lover, or 11", x, 2, 3, 1, 11);
    }

    private void amounts() {
        HalfMast x = edges.one(99, 40, "0");
        x.see(0, 39);
        dueWays("60 by 20 alone", x, 1, 1, 20, 20);
        x = edges.one(99, 41, "0");
        x.see(0, 39);
        dueWays("60 by 19 or 20", x, 2, 1, 19, 20);
        x = edges.one(99, 60, "0");
        x.see(0, 39);
        dueWays("60 by all", x, 20, 1, 1, 20);
        x = edges.one(99, 39, "0");
        x.see(0, 39);
        dueWays("21 it would be", x, 0, 0, NONE, NONE);
        x = edges.one(99, 39, "0");
        x.see(0, 60);
        dueWays("0 it would be", x, 0, 0, NONE, NONE);
        x.get(0, 1);
        dueWays("now", x, 1, 1, 1, 1);
    }

    private void waysOthers() {
        HalfMast x = edges.town(Edges.persons("plain", 0, 0) + "weighs 1;mast 99;");
        dueWays("all", x, 40, 3, 1, 20);
        x.see(0, 0);
        dueWays("none", x, 0, 0, NONE, NONE);
        dueWays("nobody", new HalfMast(), 0, 0, NONE, NONE);
        for (int wrong : new int[] {-1, 4, Edges.LEAST_INT, Edges.MOST_INT}) {
            edges.refused("ways(" + wrong + ")", y -> y.ways(wrong), NONE);
        }
        for (int what = 0; what < 4; what++) {
            int asked = what;
            edges.changesNothing("ways(" + what + ")", y -> y.ways(asked));
        }
    }

    // ---- look ----

    private void look() {
        edges.due("0: at once each apart", edges.one(99, 0, "0").look(), 0);
        // A child who lacks 20 and more weighs an inch by the law's DAY alone: 11 and more lack 20 then.
        String late = "person a child lacks 0;weighs 20;fares (date < 2) * 9 + (9 < gone) * 9 * ";
        edges.due("20", edges.town(late + "(date = 19);").look(), 20);
        edges.due("19", edges.town(late + "(date = 18);").look(), 19);
        edges.due("21 does not count", edges.town(late + "(date = 20);").look(), NONE);
        // It parts by 10 and 10 on DAY 0, and no better later.
        edges.due("of equal ones the least", edges.town("person a plain lacks 9;weighs 20;fares 0;").look(), 0);
        // Alike by 1 to 20: 19 on DAY 0, 10 and 10 on DAY 1 and then.
        edges.due("the greatest number is the least on DAY 1",
                edges.town("person a plain lacks 0;weighs 20;fares (date = 0) * 9;").look(), 1);
        HalfMast x = edges.town(Edges.persons("plain", 0, 0, 0, 0, 0, 0) + "weighs 1;mast 99;fares 0;");
        edges.due("six by each amount", x.look(), 0);
        x.see(0, 98);
        edges.due("six alike for good", x.look(), NONE);
        // 1 to 20 make 19 to 38, or 20 to 39: only by 1, by 0 or by 21 it would stand apart.
        edges.due("1 is an amount", edges.town("person a plain lacks 18;weighs 20;fares 0;").look(), 0);
        edges.due("0 and 21 are none", edges.town("person a plain lacks 19;weighs 20;fares 0;").look(), NONE);
        edges.due("20 is an amount", edges.town("person a plain lacks 20;weighs 20;fares 0;").look(), 0);
        // Behind three DAYS nobody lacks anything: that it was SEEN so then parts none of them.
        x = edges.one(99, 0, "0-9");
        x.see(3, 99);
        edges.due("SEEN behind 3, parted now", x.look(), 0);
        x = edges.town("person a plain lacks 0;weighs 20;fares 0;");
        edges.due("asked once", x.look(), 0);
        edges.due("asked again", x.look(), 0);
    }

    private void lessThanAll() {
        // Of 20 ways 19 stand alike: that is less.
        edges.due("19 of 20", edges.town("person a plain lacks 0;weighs 20;fares 0;").look(), 0);
        edges.due("20 of 20", edges.town("person a plain lacks 20;weighs 20;mast 1;fares 0;").look(), NONE);
        HalfMast x = edges.one(99, 58, "0");
        x.see(0, 39);
        edges.due("19 of 19: all lack 60", x.look(), NONE);
        x = edges.one(99, 0, "0");
        x.see(0, 90);
        edges.due("1 of 1", x.look(), NONE);
        x = edges.town(Edges.persons("plain", 0, 0) + "weighs 1;mast 99;fares (gone = 9) * (date = 4) * 3;");
        x.see(0, 90);
        edges.due("2 of 2", x.look(), NONE);
        x = edges.town("person a plain lacks 0;person b plain lacks 1;weighs 1;mast 99;fares (gone = 9) * (date = 4) * 3;");
        x.see(0, 89);
        edges.due("1 of 2, by the fifth DAY", x.look(), 5);
    }

    private void nonePartsThem() {
        edges.due("nobody", new HalfMast().look(), NONE);
        HalfMast x = edges.one(99, 0, "0");
        x.see(0, 99);
        edges.due("no way", x.look(), NONE);
        edges.due("at the ground", edges.one(1, 60, "0").look(), NONE);
        edges.due("at the mast", edges.town("person a child lacks 0;mast 99;weighs 20;fares 0;").look(), NONE);
        edges.changesNothing("look()", y -> y.look());
    }

    // ---- measure, rules ----

    private void dueRules(String when, HalfMast x, int... due) {
        for (int what = 0; what < 3; what++) {
            edges.due(when + ", rules(" + what + ")", x.rules(what), due[what]);
        }
    }

    private void measured() {
        int[][] edge = {{0, 0}, {0, 99}, {20, 0}, {20, 99}, {1, 1}, {19, 98}};
        for (int[] c : edge) {
            HalfMast x = edges.one(99, 0, "0");
            edges.due("measure(" + c[0] + ", " + c[1] + ")", x.measure(c[0], c[1]), true);
            edges.due("it is MEASURED", x.count(10), 1);
        }
        HalfMast x = edges.one(99, 59, "date = 19");
        x.measure(20, 39);
        dueRules("behind 20, 60 by 1", x, 3, 1, 0);
        x = edges.one(99, 59, "date = 19");
        x.measure(19, 40);
        dueRules("behind 19, 59 by 1", x, 3, 1, 0);
        x = edges.one(99, 59, "date = 20");
        x.measure(20, 40);
        dueRules("the 21st DAY does not count", x, 3, 1, 0);
        x = edges.one(99, 0, "0");
        for (int i = 1; i <= 8; i++) {
            edges.due("the same one again", x.measure(3, 99), true);
            edges.due("how many", x.count(10), i);
        }
        edges.due("a ninth", x.measure(3, 99), false);
        edges.due("eight", x.count(10), 8);
        dueRules("all", x, 60, 1, 0);
        HalfMast y = edges.one(99, 0, "0");
        Edges.times(7, () -> y.measure(3, 99) ? 1 : 0);
        edges.due("the eighth", y.measure(20, 98), true);
        dueRules("the eighth counts", y, 0, NONE, NONE);
    }

    private void measureOthers() {
        dueOthers("measure", (days, height) -> x -> x.measure(days, height) ? 1 : 0);
        edges.refusedIn(Busy.FULL, "measure(0, 50), 8 there are", x -> x.measure(0, 50) ? 1 : 0, 0);
        edges.refusedIn(Busy.FULL, "measure(20, 99), 8 there are", x -> x.measure(20, 99) ? 1 : 0, 0);
        HalfMast x = Busy.SOME.made();
        int can = 8 - x.count(10);
        for (int i = 0; i < can; i++) {
            edges.due("room for it", x.measure(0, 40), true);
        }
        edges.due("no room", x.measure(0, 40), false);
        edges.due("SEEN is apart", x.count(9), 2);
        x.mark(0, true);
        edges.due("back to when nothing was MEASURED", x.measure(0, 40), true);
        edges.due("nobody: it is MEASURED all the same", new HalfMast().measure(0, 40), true);
    }

    private void rules() {
        HalfMast x = edges.one(99, 60, "0");
        x.measure(0, 39);
        dueRules("the least weight, three ways", x, 3, 1, 0);
        x = edges.town("person a plain lacks 19;fares 1;");
        x.measure(0, 40);
        x.measure(1, 39);
        // 19 is nothing, 20 an inch: cut by 20 alone.
        dueRules("the greatest weight, cut", x, 1, 20, 0);
        x = edges.town("person a plain lacks 20;fares 1;");
        x.measure(0, 39);
        x.measure(1, 38);
        // 20 is an inch, 21 are two: up by 20, and near by 14, the half up.
        dueRules("the half up by 14", x, 2, 14, 2);
        x.measure(2, 38);
        x.measure(0, 39);
        dueRules("for good", x, 2, 14, 2);
        x = edges.town("person a plain lacks 9;fares 1;");
        x.measure(0, 40);
        // 9 is nothing: cut by 10 and more, near by 19 and more.
        dueRules("cut by 10", x, 13, 10, 0);
        x.measure(1, 39);
        // 10 is an inch: cut by 10, near by 19 and 20.
        dueRules("and an inch", x, 3, 10, 0);
        x = edges.town("person a plain lacks 10;fares 0;");
        x.measure(0, 36);
        dueRules("up by 3 alone", x, 1, 3, 1);
        x = edges.town("person a plain lacks 0;fares 0;");
        x.measure(0, 40);
        dueRules("all", x, 60, 1, 0);
        x = edges.town("person a plain lacks 20;weighs 7;rounds up;fares 0;");
        x.measure(0, 39);
        // An inch: cut by 11 to 20, up by 20, near by 14 to 20.
        dueRules("whatever the town's own are", x, 18, 11, 0);
        edges.due("which stay", x.count(2) * 10 + x.count(3), 71);
        x = edges.town("person a plain lacks 60;mast 1;");
        x.measure(0, 0);
        dueRules("at the ground", x, 60, 1, 0);
    }

    private void rulesOthers() {
        HalfMast x = edges.one(99, 60, "0");
        dueRules("nothing MEASURED", x, 60, 1, 0);
        x.measure(0, 99);
        dueRules("none", x, 0, NONE, NONE);
        dueRules("nobody", new HalfMast(), 60, 1, 0);
        for (int wrong : new int[] {-1, 3, Edges.LEAST_INT, Edges.MOST_INT}) {
            edges.refused("rules(" + wrong + ")", y -> y.rules(wrong), NONE);
        }
        for (int what = 0; what < 3; what++) {
            int asked = what;
            edges.changesNothing("rules(" + what + ")", y -> y.rules(asked));
        }
    }
}
