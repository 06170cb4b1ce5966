/** Promises 5 to 13: high, person, lose, get, spare, feel, day, undo, judged, and how the law is reckoned. */
public final class HandTest {
    private static final Check CHECK = new Check("HandTest");
    private static final String FOUR = "person ann plain lacks 7 ; person bob lover lacks 7 ; "
            + "person cid widow lacks 7 ; person dot child lacks 7 ; ";

    public static void main(String[] args) {
        weighing();
        rounding();
        losingAndGetting();
        sparing();
        feeling();
        days();
        laws();
        longLaws();
        undoing();
        judging();
        CHECK.finish();
    }

    private static void weighing() {
        HalfMast x = Check.in(FOUR + "feels ann bob ; feels ann dot ;");
        int[] kinds = {0, 1, 2, 3};
        int[] weights = {7, 17, 14, 3};
        for (int i = 0; i < 4; i++) {
            CHECK.due("kind of " + i, x.person(i, 0), kinds[i]);
            CHECK.due("lacks of " + i, x.person(i, 1), 7);
            CHECK.due("weight of " + i, x.person(i, 2), weights[i]);
        }
        CHECK.due("whom ann feels", x.person(0, 3), 2 + 8);
        CHECK.due("whom bob feels", x.person(1, 3), 0);
        CHECK.due("41 by 6", x.high(), 40 - 6);
        x.get(1, 7);
        CHECK.due("a lover who lacks nothing", x.person(1, 2), 0);
        for (int[] wrong : new int[][] {{-1, 0}, {4, 0}, {0, -1}, {0, 4}, {Integer.MAX_VALUE, 1}, {Integer.MIN_VALUE, 1}}) {
            CHECK.due("person of others", x.person(wrong[0], wrong[1]), -2);
        }
    }

    private static void rounding() {
        String[] how = {"cut", "up", "near"};
        // What lacks, what weighs an inch, and the inches by each way.
        int[][] cases = {{0, 5, 0, 0, 0}, {1, 5, 0, 1, 0}, {2, 5, 0, 1, 0}, {3, 5, 0, 1, 1}, {5, 5, 1, 1, 1},
            {7, 5, 1, 2, 1}, {8, 5, 1, 2, 2}, {2, 4, 0, 1, 1}, {5, 4, 1, 2, 1}, {6, 4, 1, 2, 2}, {60, 1, 60, 60, 60},
            {9, 20, 0, 1, 0}, {10, 20, 0, 1, 1}, {60, 7, 8, 9, 9}};
        for (int[] c : cases) {
            for (int i = 0; i < 3; i++) {
                HalfMast x = Check.in("person a plain lacks " + c[0] + ";weighs " + c[1] + ";mast 70;rounds " + how[i] + ";");
                CHECK.due(c[0] + " by " + c[1] + " " + how[i], x.high(), 70 - c[2 + i]);
            }
        }
        CHECK.due("at 0 at least", Check.in("person a widow lacks 60 ; weighs 1 ; mast 9 ;").high(), 0);
        CHECK.due("just 0", Check.in("person a plain lacks 9 ; weighs 1 ; mast 9 ;").high(), 0);
    }

    private static void losingAndGetting() {
        HalfMast x = Check.in("person ann plain lacks 50 ; weighs 10 ;");
        CHECK.due("lose 1", x.lose(0, 1), 51);
        CHECK.due("lose 20, 60 at most", x.lose(0, 20), 60);
        CHECK.due("high", x.high(), 34);
        CHECK.due("lose at 60", x.lose(0, 3), 60);
        CHECK.due("get 20", x.get(0, 20), 40);
        CHECK.due("get 1", x.get(0, 1), 39);
        CHECK.due("high", x.high(), 37);
        CHECK.due("get 20", x.get(0, 20), 19);
        CHECK.due("get 20, 0 at least", x.get(0, 20), 0);
        CHECK.due("can be undone", x.count(11), 7);
        for (int[] wrong : new int[][] {{-1, 1}, {1, 1}, {0, 0}, {0, 21}, {0, -1}, {0, Integer.MIN_VALUE}}) {
            CHECK.due("lose others", x.lose(wrong[0], wrong[1]), -1);
            CHECK.due("get others", x.get(wrong[0], wrong[1]), -1);
        }
        CHECK.due("others are nothing to undo", x.count(11), 7);
    }

    private static void sparing() {
        HalfMast x = Check.in(FOUR);
        CHECK.due("spare cid, 27 by 6 is left", x.spare(2), 2);
        CHECK.due("lacks nothing", x.person(2, 1), 0);
        CHECK.due("again", x.spare(2), 0);
        CHECK.due("all of these", x.count(11), 2);
        CHECK.due("of 60", Check.in("person a plain lacks 60 ; weighs 1 ; mast 99 ;").spare(0), 60);
        CHECK.due("spare others", x.spare(4), -1);
        CHECK.due("spare others", x.spare(-1), -1);
        CHECK.due("nothing to undo", x.count(11), 2);
    }

    private static void feeling() {
        HalfMast x = Check.in(FOUR + "feels ann bob ;");
        CHECK.due("feel", x.feel(0, 3), true);
        CHECK.due("both", x.person(0, 3), 2 + 8);
        CHECK.due("feel no more", x.feel(0, 1), true);
        CHECK.due("one", x.person(0, 3), 8);
        CHECK.due("the other way is another", x.feel(3, 0), true);
        CHECK.due("back", x.person(3, 3), 1);
        CHECK.due("can be undone", x.count(11), 3);
        for (int[] wrong : new int[][] {{0, 0}, {3, 3}, {-1, 0}, {0, -1}, {4, 0}, {0, 4}, {-1, -1}, {32, 1}}) {
            CHECK.due("feel others", x.feel(wrong[0], wrong[1]), false);
        }
        CHECK.due("nothing to undo", x.count(11), 3);
    }

    private static void days() {
        HalfMast x = Check.in("person ann plain lacks 5 ; person bob plain lacks 6 ; feels ann bob ; feels bob ann ; "
                + "weighs 1 ; fares felt * 3 - 1 ;");
        CHECK.due("ann 2 more, bob 1 less, by what was ahead", x.day(), -1);
        CHECK.due("ann", x.person(0, 1), 7);
        CHECK.due("bob", x.person(1, 1), 5);
        CHECK.due("the next day", x.count(4), 1);
        CHECK.due("ann 1 less, bob 2 more", x.day(), -1);
        CHECK.due("ann", x.person(0, 1), 6);
        CHECK.due("bob", x.person(1, 1), 7);
        x = Check.in("person ann plain lacks 55 ; person bob plain lacks 4 ; weighs 1 ; mast 99 ; fares (30 < gone) * 18 - 9 ;");
        CHECK.due("of 0 to 60: 5 more, 4 less", x.day(), -1);
        CHECK.due("60", x.person(0, 1), 60);
        CHECK.due("0", x.person(1, 1), 0);
        CHECK.due("and stays", x.day(), 0);
        x = Check.in("person ann plain lacks 9 ; weighs 2 ;");
        CHECK.due("without fares: 1 less", x.day(), 0);
        CHECK.due("8", x.person(0, 1), 8);
        CHECK.due("up", x.day(), 1);
        x = Check.in("person ann plain lacks 0 ; fares date ;");
        x.day();
        CHECK.due("date 0", x.person(0, 1), 0);
        x.day();
        CHECK.due("date 1", x.person(0, 1), 1);
        x.day();
        CHECK.due("date 2", x.person(0, 1), 3);
        x = Check.in("person ann plain lacks 9 ; person bob plain lacks 10 ; person cid plain lacks 11 ; "
                + "feels ann bob ; feels ann cid ; feels bob cid ;");
        x.day();
        CHECK.due("felt by two, so 1 more", x.person(0, 1), 10);
        CHECK.due("felt by one, so as it was", x.person(1, 1), 10);
        CHECK.due("felt by none, so 1 less", x.person(2, 1), 10);
        x = Check.in("person a plain lacks 1;person b plain lacks 1;person c plain lacks 1;person d plain lacks 1;"
                + "person e plain lacks 1;person f child lacks 9;feels a f;fares felt * 3 + gone;");
        x.day();
        CHECK.due("the sixth is felt", x.person(0, 1), 5);
        CHECK.due("the sixth fares", x.person(5, 1), 18);
        CHECK.due("the sixth weighs", x.person(5, 2), 9);
        CHECK.due("the sixth is a child", x.person(5, 0), 3);
        x = new HalfMast();
        CHECK.due("a day with nobody", x.day(), 0);
        CHECK.due("is a day", x.count(4), 1);
    }

    private static void laws() {
        // By ann, who lacks 30: 75 weigh, so the flag is at 5; one of the three whom she feels lacks more.
        Object[][] laws = {{"5", 5}, {"12", 9}, {"0 - 12", -9}, {"9", 9}, {"10", 9}, {"0-9", -9}, {"0-10", -9},
            {"2 + 3 * 2", 8}, {"(2 + 3) * 2 - 3", 7}, {"9 - 4 - 3", 2}, {"9 - (4 - 3)", 8}, {"2 * 3 * 2 - 5", 7},
            {"not 0", 1}, {"not 7", 0}, {"not not 7", 1}, {"not 0 * 5", 5}, {"not 0 + 5", 6}, {"not (0 + 5)", 0},
            {"3 < 4", 1}, {"4 < 3", 0}, {"3 < 3", 0}, {"3 = 3", 1}, {"3 = 4", 0}, {"1 + 2 < 2 * 2", 1},
            {"2 and 4", 1}, {"2 and 0", 0}, {"0 and 2", 0}, {"0 or 5", 1}, {"5 or 0", 1}, {"0 or 0", 0},
            {"1 or 1 and 0", 0}, {"1 or (1 and 0)", 1}, {"0 and 0 or 1", 1}, {"0 and (0 or 1)", 0},
            {"1 < 2 and 3 = 3", 1}, {"(1 < 2) + (2 < 3)", 2}, {"(0 - 3) and 1", 1}, {"0 - 3 < 2", 1},
            {"gone - 25", 5}, {"high - 1", 4}, {"felt + 6", 7}, {"date + 3", 3}, {"((((4))))", 4},
            {"256 * 256 * 256 * 128", -9}, {"256 * 256 * 256 * 128 - 1", 9}, {"256 * 256 * 256 * 256 + 4", 4},
            {"9999 * 9999 * 9999 * 0 + 8", 8}, {"0007", 7}};
        for (Object[] law : laws) {
            HalfMast x = Check.in("person ann plain lacks 30 ; person b plain lacks 30 ; person c lover lacks 0 ; "
                    + "person d child lacks 31 ; mast 80 ; weighs 1 ; feels ann b ; feels ann c ; feels ann d ; fares "
                    + law[0] + " ;");
            x.day();
            CHECK.due("fares " + law[0], x.person(0, 1), 30 + (int) law[1]);
        }
    }

    /** As many values wait as can, and as many steps are taken as a tape has room for. */
    private static void longLaws() {
        String level = "1 and 3 < 2 + 2 * (";
        for (int last = 0; last <= 1; last++) {
            String law = level.repeat(4) + "1 and 3 < 2 + 2 * " + last + "))))";
            HalfMast x = Check.in("person ann plain lacks 30 ; fares " + law + " ;");
            x.day();
            CHECK.due("the deepest law, " + last, x.person(0, 1), 30 + last);
        }
        String person = "person a plain lacks 30;";
        StringBuilder law = new StringBuilder("fares 0");
        while (person.length() + law.length() < 995) {
            law.append("-1+1");
        }
        law.append("+4");
        while (person.length() + law.length() < 999) {
            law.append(' ');
        }
        HalfMast x = Check.in(person + law + ";");
        x.day();
        CHECK.due("the longest law", x.person(0, 1), 34);
    }

    private static void undoing() {
        HalfMast x = Check.in(FOUR + "feels ann bob ;");
        CHECK.due("nothing to undo", x.undo(), false);
        x.lose(0, 5);
        x.get(1, 3);
        x.spare(2);
        x.feel(0, 1);
        x.feel(3, 2);
        x.day();
        CHECK.due("six", x.count(11), 6);
        CHECK.due("undo day", x.undo(), true);
        CHECK.due("day 0", x.count(4), 0);
        CHECK.due("ann 12", x.person(0, 1), 12);
        CHECK.due("undo feel", x.undo(), true);
        CHECK.due("dot feels nobody", x.person(3, 3), 0);
        CHECK.due("ann feels nobody", x.person(0, 3), 0);
        x.undo();
        CHECK.due("ann feels bob", x.person(0, 3), 2);
        x.undo();
        CHECK.due("cid 7", x.person(2, 1), 7);
        x.undo();
        CHECK.due("bob 7", x.person(1, 1), 7);
        x.undo();
        CHECK.due("ann 7", x.person(0, 1), 7);
        CHECK.due("high as told", x.high(), 34);
        CHECK.due("no more", x.undo(), false);
        for (int i = 0; i < 20; i++) {
            x.day();
        }
        CHECK.due("16 at most", x.count(11), 16);
        for (int i = 0; i < 16; i++) {
            CHECK.due("undo", x.undo(), true);
        }
        CHECK.due("the seventeenth", x.undo(), false);
        CHECK.due("so day 4", x.count(4), 4);
        x.lose(0, 9);
        x.undo();
        CHECK.due("in turns", x.count(11), 0);
    }

    private static void judging() {
        HalfMast x = Check.in("person ann plain lacks 12 ; person bob widow lacks 3 ; weighs 6 ; mast 20 ; fares felt * 6 ;");
        CHECK.due("no year: no line", x.judged(0), -1);
        CHECK.due("no year: never", x.judged(1), 0);
        CHECK.due("no year: 18 by 6", x.judged(2), 17);
        // They weigh 18, 23, 29, 23, 23, 35 (bob lacks 6 more), 17, 0.
        Check.year(x, "lose ann 5 ; lose bob 3 ; get bob 3 ; feel bob ann ; day ; spare bob ; spare ann ;");
        CHECK.due("the first line", x.judged(0), 1);
        CHECK.due("how often", x.judged(1), 5);
        CHECK.due("how high", x.judged(2), 20);
        for (int i = 0; i < 3; i++) {
            x.lose(0, 20);
            x.day();
            x.feel(1, 0);
        }
        CHECK.due("from the begin: the first line", x.judged(0), 1);
        CHECK.due("from the begin: how often", x.judged(1), 5);
        CHECK.due("from the begin: how high", x.judged(2), 20);
        CHECK.due("nothing is done by it", x.count(4), 3);
        CHECK.due("others", x.judged(3), -2);
        CHECK.due("others", x.judged(-1), -2);
        Check.year(x, "day ; feel ann bob ; get bob 20 ;");
        CHECK.due("another year: the first line", x.judged(0), 2);
        CHECK.due("another year: how often", x.judged(1), 1);
        CHECK.due("another year: how high", x.judged(2), 18);
        Check.year(x, "day ; feel ann bob ;");
        CHECK.due("it moves by no line", x.judged(0), -1);
        Check.year(x, "spare ann ; lose ann 12 ; spare ann ;");
        CHECK.due("line 0", x.judged(0), 0);
        CHECK.due("by each line", x.judged(1), 3);
        Check.year(x, "day ; ".repeat(39) + "lose bob 9 ;");
        CHECK.due("line 39", x.judged(0), 39);
        CHECK.due("18 more", x.judged(2), 14);
    }
}
