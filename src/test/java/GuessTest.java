/** Promises 23 to 27: see, ways, look, measure, rules. */
public final class GuessTest {
    private static final Check CHECK = new Check("GuessTest");
    private static final String TWO = "person ann plain lacks 0 ; person bob widow lacks 0 ; weighs 6 ; mast 40 ; ";

    public static void main(String[] args) {
        seeing();
        ways();
        waysFromNow();
        looking();
        measuring();
        rules();
        CHECK.finish();
    }

    private static void seeing() {
        HalfMast x = Check.in(TWO);
        for (int[] wrong : new int[][] {{-1, 0}, {21, 0}, {0, -1}, {0, 100}, {Integer.MIN_VALUE, 5}, {5, Integer.MAX_VALUE}}) {
            CHECK.due("see others", x.see(wrong[0], wrong[1]), false);
            CHECK.due("measure others", x.measure(wrong[0], wrong[1]), false);
        }
        CHECK.due("none is kept", x.count(9) + x.count(10), 0);
        for (int i = 0; i < 8; i++) {
            CHECK.due("see", x.see(i % 2 == 0 ? 0 : 20, i % 3 == 0 ? 0 : 99), true);
            CHECK.due("seen", x.count(9), i + 1);
            CHECK.due("measured apart", x.count(10), 0);
        }
        CHECK.due("the ninth", x.see(0, 40), false);
        CHECK.due("eight", x.count(9), 8);
        for (int i = 0; i < 8; i++) {
            CHECK.due("measure", x.measure(i % 2 == 0 ? 20 : 0, i % 3 == 0 ? 99 : 0), true);
            CHECK.due("measured", x.count(10), i + 1);
        }
        CHECK.due("the ninth", x.measure(0, 40), false);
    }

    private static void dueWays(HalfMast x, String when, int many, int who, int least, int greatest) {
        CHECK.due(when + ": how many", x.ways(0), many);
        CHECK.due(when + ": who", x.ways(1), who);
        CHECK.due(when + ": the least", x.ways(2), least);
        CHECK.due(when + ": the greatest", x.ways(3), greatest);
    }

    private static void ways() {
        HalfMast x = Check.in(TWO + "fares (date < 2) * 3 ;");
        dueWays(x, "nothing seen", 40, 3, 1, 20);
        // An inch less: ann by 6 to 11, bob by 3 to 5.
        x.see(0, 39);
        dueWays(x, "at 39", 9, 3, 3, 11);
        // Both lack 3 more, 9 more weigh: 15 to 20 by ann, 15 to 19 by bob; 18 and more are three inches.
        x.see(1, 37);
        dueWays(x, "at 37 behind a day", 4, 3, 5, 11);
        // And 9 more: 27 to 29 by ann, 28 by bob.
        x.see(2, 36);
        dueWays(x, "at 36 behind two", 4, 3, 5, 11);
        x.see(20, 36);
        dueWays(x, "and then for good", 4, 3, 5, 11);
        CHECK.due("others", x.ways(4), -1);
        CHECK.due("others", x.ways(-1), -1);
        x.see(0, 38);
        dueWays(x, "two heights at once", 0, 0, -1, -1);
        dueWays(new HalfMast(), "nobody", 0, 0, -1, -1);
        x = Check.in("person ann plain lacks 55 ; weighs 1 ; mast 99 ; fares 0 ;");
        x.see(0, 39);
        dueWays(x, "60 at most", 16, 1, 5, 20);
    }

    private static void waysFromNow() {
        HalfMast x = Check.in(TWO + "fares 0 ;");
        x.see(0, 38);
        dueWays(x, "at 38", 9, 3, 6, 17);
        x.lose(0, 6);
        dueWays(x, "from now on", 9, 3, 3, 11);
        x.undo();
        dueWays(x, "as ahead", 9, 3, 6, 17);
        CHECK.due("nothing is lost by it", x.count(5), 0);
    }

    private static void looking() {
        CHECK.due("nobody", new HalfMast().look(), -1);
        // By 20 alone it stands lower, at once and later.
        CHECK.due("at once", Check.in("person a plain lacks 0 ; weighs 20 ; fares 0 ;").look(), 0);
        CHECK.due("they stand alike for good", Check.in("person a child lacks 0 ; weighs 20 ; fares 0 ;").look(), -1);
        // What lacks 10 or more goes up by 9 a day, what lacks less is nothing then.
        HalfMast x = Check.in("person a plain lacks 0 ; weighs 20 ; fares (9 < gone) * 18 - 9 ;");
        // Alike by 1 .. 20: 19 on day 0; 10 and 10 on day 1; 9 and 11 on day 2; 9, 3 and 8 on day 3; 9, 5 and 6 on day 5.
        CHECK.due("on the third day, the first of equal ones", x.look(), 3);
        x.see(1, 39);
        // By 11 .. 20: 9 and 1 on day 0; all on days 1 and 2; 2 and 8 on day 3; 4 and 6 on day 5.
        CHECK.due("on the fifth day", x.look(), 5);
        x.see(3, 38);
        // By 13 .. 20: 7 and 1 on day 0; 2 and 6 on day 5.
        CHECK.due("still on the fifth day", x.look(), 5);
        x.see(0, 39);
        CHECK.due("one way is left", x.ways(0), 1);
        CHECK.due("nothing to part", x.look(), -1);
        x.see(0, 40);
        CHECK.due("no way is left", x.look(), -1);
        x = Check.in("person a plain lacks 0 ; weighs 2 ; mast 1 ; fares 0 ;");
        CHECK.due("1 alone stands at the mast", x.look(), 0);
        CHECK.due("at the highest mast all alike", Check.in("person a child lacks 0 ; weighs 20 ; mast 99 ; fares 0 ;").look(), -1);
        CHECK.due("at the ground all alike", Check.in("person a widow lacks 60 ; weighs 1 ; mast 1 ; fares 0 ;").look(), -1);
        // By 13 and more a child lacks 40 then, and weighs an inch.
        CHECK.due("on the last day", Check.in("person a child lacks 0 ; weighs 20 ; "
                + "fares (date = 19) * (9 < gone) * 9 + (date < 2) * 9 ;").look(), 20);
        CHECK.due("behind the last day", Check.in("person a child lacks 0 ; weighs 20 ; "
                + "fares (date = 20) * (9 < gone) * 9 + (date < 2) * 9 ;").look(), -1);
    }

    private static void dueRules(HalfMast x, String when, int many, int weight, int how) {
        CHECK.due(when + ": how many", x.rules(0), many);
        CHECK.due(when + ": the least weight", x.rules(1), weight);
        CHECK.due(when + ": how", x.rules(2), how);
        CHECK.due(when + ": others", x.rules(3), -1);
        CHECK.due(when + ": others", x.rules(-1), -1);
    }

    private static void measuring() {
        HalfMast x = Check.in("person a plain lacks 9 ; fares 0 ;");
        dueRules(x, "nothing measured", 60, 1, 0);
        x.measure(0, 38);
        // Cut: 4. Up: 5 to 8. Near: 4 to 6.
        dueRules(x, "two inches", 8, 4, 0);
        x.measure(7, 38);
        dueRules(x, "for good", 8, 4, 0);
        x.measure(7, 39);
        dueRules(x, "both", 0, -1, -1);
        CHECK.due("what weighs an inch stays", x.count(2), 6);
    }

    private static void rules() {
        HalfMast x = Check.in("person a plain lacks 10 ; fares 0 ;");
        x.measure(0, 36);
        dueRules(x, "four inches: up by 3", 1, 3, 1);
        x = Check.in("person a plain lacks 11 ; fares 1 ;");
        // 11: up by 3 and near by 3 make four inches; behind a day, of 12: cut, up, near by 3 do.
        x.measure(0, 36);
        dueRules(x, "four inches", 2, 3, 1);
        x.measure(2, 36);
        // 13: near by 3, not up by 3.
        dueRules(x, "and two days later", 1, 3, 2);
        x = Check.in("person a plain lacks 20 ; mast 40 ; weighs 20 ; fares (high < 30) * 9 ;");
        // By 1 it stands at 20, so nine more are gone; by 2, just at 30, none: behind a day 11, or 30 and more.
        x.measure(1, 11);
        dueRules(x, "the law goes by the height of the rule", 3, 1, 0);
        x.get(0, 20);
        dueRules(x, "from now on", 0, -1, -1);
        x = Check.in("person a widow lacks 60 ; mast 5 ;");
        x.measure(0, 0);
        dueRules(x, "at the ground", 60, 1, 0);
    }
}
