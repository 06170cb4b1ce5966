/** Promises 28 to 34 and 40: reach, through, groups, deaf, alike, worse, mean, hearts. */
public final class FeelingTest {
    private static final Check CHECK = new Check("FeelingTest");
    private static final String SIX = "person a plain lacks 5;person b lover lacks 5;person c widow lacks 9;"
            + "person d child lacks 0;person e plain lacks 5;person f plain lacks 10;";

    public static void main(String[] args) {
        aRing();
        aChain();
        groups();
        lackingAlike();
        worse();
        others();
        CHECK.finish();
    }

    private static void aRing() {
        HalfMast x = Check.in(SIX + "feels a b;feels b c;feels c d;feels d e;feels e f;feels f a;");
        for (int i = 0; i < 6; i++) {
            CHECK.due("reach all", x.reach(i), 63);
            CHECK.due("till it comes back", x.through(i, i), 6);
            CHECK.due("the next one", x.through(i, (i + 1) % 6), 1);
            CHECK.due("the one ahead", x.through(i, (i + 5) % 6), 5);
            CHECK.due("hearts", x.hearts(i), 1 << (i + 5) % 6);
        }
        CHECK.due("one group", x.groups(), 1);
        CHECK.due("nobody is deaf", x.deaf(), 0);
        x.feel(2, 1);
        CHECK.due("a shorter way back", x.through(1, 1), 2);
        CHECK.due("hearts of b", x.hearts(1), 1 + 4);
        x.undo();
        x.feel(5, 0);
        CHECK.due("no ring any more", x.through(0, 0), -1);
        CHECK.due("six groups", x.groups(), 6);
        CHECK.due("f is deaf", x.deaf(), 32);
        CHECK.due("reach of f", x.reach(5), 0);
        CHECK.due("hearts of a", x.hearts(0), 0);
        CHECK.due("reach of a, not herself", x.reach(0), 62);
    }

    private static void aChain() {
        HalfMast x = Check.in(SIX + "feels a b;feels b c;feels a c;feels c d;feels d b;");
        CHECK.due("the shortest", x.through(0, 3), 2);
        CHECK.due("direct", x.through(0, 2), 1);
        CHECK.due("never back", x.through(3, 0), -1);
        CHECK.due("never", x.through(0, 4), -1);
        CHECK.due("three round", x.through(2, 2), 3);
        CHECK.due("reach of a", x.reach(0), 2 + 4 + 8);
        CHECK.due("reach of b, herself too", x.reach(1), 2 + 4 + 8);
        CHECK.due("deaf", x.deaf(), 16 + 32);
        CHECK.due("hearts of c", x.hearts(2), 1 + 2);
        CHECK.due("hearts of e", x.hearts(4), 0);
    }

    private static void groups() {
        CHECK.due("nobody", new HalfMast().groups(), 0);
        CHECK.due("each alone", Check.in(SIX).groups(), 6);
        CHECK.due("one way only", Check.in(SIX + "feels a b;feels c d;").groups(), 6);
        CHECK.due("two pairs", Check.in(SIX + "feels a f;feels f a;feels c d;feels d c;feels a c;").groups(), 4);
        CHECK.due("a ring of three", Check.in(SIX + "feels f b;feels b d;feels d f;feels a b;").groups(), 4);
        CHECK.due("all are deaf", Check.in(SIX).deaf(), 63);
        CHECK.due("nobody is", new HalfMast().deaf(), 0);
    }

    private static void lackingAlike() {
        HalfMast x = Check.in(SIX);
        CHECK.due("three of 5", x.alike(), 3);
        x.lose(3, 9);
        CHECK.due("and two of 9", x.alike(), 4);
        CHECK.due("nobody", new HalfMast().alike(), 0);
        CHECK.due("one alone", Check.in("person a plain lacks 0;").alike(), 0);
        CHECK.due("all nothing",
                Check.in("person a plain lacks 0;person b child lacks 0;person c plain lacks 0;person d plain lacks 0;").alike(), 6);
        CHECK.due("43 by 6", x.mean(), 7);
        CHECK.due("34 by 6", Check.in(SIX).mean(), 5);
        CHECK.due("nobody", new HalfMast().mean(), 0);
        CHECK.due("one", Check.in("person a widow lacks 7;").mean(), 7);
    }

    private static void worse() {
        HalfMast x = Check.in(SIX + "feels a d;feels b a;feels c a;feels c b;feels f c;feels f d;feels e f;");
        // b lacks as much as a; e less than f.
        CHECK.due("a, c, f", x.worse(), 1 + 4 + 32);
        x.lose(2, 1);
        CHECK.due("f lacks as much as c now", x.worse(), 1 + 4);
        x.feel(5, 2);
        CHECK.due("f feels d alone", x.worse(), 1 + 4 + 32);
        x.feel(5, 3);
        CHECK.due("f feels nobody", x.worse(), 1 + 4);
        CHECK.due("nobody feels", Check.in(SIX).worse(), 0);
        CHECK.due("nobody", new HalfMast().worse(), 0);
    }

    private static void others() {
        HalfMast x = Check.in("person a plain lacks 1;person b plain lacks 1;feels a b;feels b a;");
        for (int wrong : new int[] {-1, 2, 6, 32, Integer.MAX_VALUE, Integer.MIN_VALUE}) {
            CHECK.due("reach others", x.reach(wrong), -1);
            CHECK.due("hearts others", x.hearts(wrong), -1);
            CHECK.due("through others", x.through(wrong, 0), -1);
            CHECK.due("through others", x.through(0, wrong), -1);
            CHECK.due("through others", x.through(wrong, wrong), -1);
        }
    }
}
