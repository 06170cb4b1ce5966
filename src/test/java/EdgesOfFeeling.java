/** Promises 28 to 34 and 40, reach, through, groups, deaf, alike, worse, mean, hearts: boundary cases. */
final class EdgesOfFeeling {
    private static final int NONE = HalfMast.NONE;
    private static final int[] NOBODY = {-1, 6, 7, 31, 32, 64, Edges.LEAST_INT, Edges.MOST_INT};
    private static final String SIX = Edges.persons("plain", 5, 5, 5, 5, 5, 5);
    private static final String CHAIN = "feels a b;feels b c;feels c d;feels d e;feels e f;";

    private final Edges edges;

    EdgesOfFeeling(Edges edges) {
        this.edges = edges;
    }

    void all() {
        edges.of(28, "REACH of a PERSON: all whom they feel through however many, themselves too if it comes back (bits).", this::reach);
        edges.of(28, "REACH, as bits; NONE: others.", this::reachOthers);
        edges.of(29, "THROUGH: by how many steps, at least, one feels another one (1 to 6).", this::through);
        edges.of(29, "THROUGH (the same: till it comes back); NONE: others, never.", this::throughOthers);
        edges.of(30, "GROUPS: how many there are, of PERSONS who feel one another, each way, through however many (one alone is "
                + "one, too).", this::groups);
        edges.of(31, "DEAF: who feels nobody (bits).", this::deaf);
        edges.of(32, "ALIKE: pairs who lack alike.", this::alike);
        edges.of(33, "WORSE: who lacks more than all whom they feel, if there are any (bits).", this::worse);
        edges.of(34, "MEAN: what all lack by how many they are, cut.", this::mean);
        edges.of(34, "MEAN (0: nobody).", this::meanOfNobody);
        edges.of(40, "HEARTS of a PERSON: who feels them (bits).", this::hearts);
        edges.of(40, "HEARTS, as bits; NONE: others.", this::heartsOthers);
    }

    private HalfMast everybody() {
        StringBuilder text = new StringBuilder(SIX);
        for (int i = 0; i < 36; i++) {
            if (i / 6 != i % 6) {
                text.append("feels ").append((char) ('a' + i / 6)).append(' ').append((char) ('a' + i % 6)).append(';');
            }
        }
        return edges.town(text.toString());
    }

    private void reach() {
        HalfMast x = edges.town(SIX + CHAIN);
        int[] due = {62, 60, 56, 48, 32, 0};
        for (int i = 0; i < 6; i++) {
            edges.due("a chain, reach(" + i + ")", x.reach(i), due[i]);
        }
        x.feel(5, 0);
        for (int i = 0; i < 6; i++) {
            edges.due("a ring, reach(" + i + ")", x.reach(i), 63);
        }
        x = edges.town(SIX + "feels a b;feels b a;");
        edges.due("it comes back", x.reach(0), 3);
        edges.due("nobody", x.reach(2), 0);
        x = edges.town(SIX + "feels a b;feels b c;feels c b;");
        edges.due("it does not come back to a", x.reach(0), 6);
        edges.due("it comes back to b", x.reach(1), 6);
        edges.due("all feel all", everybody().reach(0), 63);
        // The way goes down the numbers, too.
        x = edges.town(SIX + "feels f e;feels e d;feels d c;feels c b;feels b a;");
        edges.due("down, reach(5)", x.reach(5), 31);
        edges.due("down, reach(0)", x.reach(0), 0);
        edges.due("one alone", edges.one(99, 5, "0").reach(0), 0);
    }

    private void reachOthers() {
        for (int wrong : NOBODY) {
            edges.refused("reach(" + wrong + ")", x -> x.reach(wrong), NONE);
        }
        edges.refusedIn(Busy.SOME, "reach(3), of three", x -> x.reach(3), NONE);
        edges.refusedIn(Busy.NEW, "reach(0), of none", x -> x.reach(0), NONE);
        edges.changesNothing("reach(0)", x -> x.reach(0));
    }

    private void through() {
        HalfMast x = edges.town(SIX + CHAIN);
        for (int i = 0; i < 6; i++) {
            for (int j = 0; j < 6; j++) {
                edges.due("a chain, through(" + i + ", " + j + ")", x.through(i, j), j > i ? j - i : NONE);
            }
        }
        x.feel(5, 0);
        for (int i = 0; i < 6; i++) {
            for (int j = 0; j < 6; j++) {
                edges.due("a ring, through(" + i + ", " + j + ")", x.through(i, j), i == j ? 6 : (j - i + 6) % 6);
            }
        }
        x.feel(0, 5);
        edges.due("at least: there and back", x.through(0, 0), 2);
        edges.due("at least: the short way", x.through(0, 5), 1);
        HalfMast all = everybody();
        edges.due("each by one step", all.through(0, 5), 1);
        edges.due("oneself by two", all.through(3, 3), 2);
    }

    private void throughOthers() {
        HalfMast x = edges.town(SIX + "feels a b;feels b c;feels c a;feels d a;");
        edges.due("till it comes back", x.through(0, 0), 3);
        edges.due("it never does", x.through(3, 3), NONE);
        edges.due("never", x.through(0, 3), NONE);
        edges.due("one alone", edges.one(99, 5, "0").through(0, 0), NONE);
        for (int wrong : NOBODY) {
            edges.refused("through(" + wrong + ", 0)", y -> y.through(wrong, 0), NONE);
            edges.refused("through(0, " + wrong + ")", y -> y.through(0, wrong), NONE);
            edges.refused("through(" + wrong + ", the same)", y -> y.through(wrong, wrong), NONE);
        }
        edges.refusedIn(Busy.SOME, "through(0, 3), of three", y -> y.through(0, 3), NONE);
        edges.refusedIn(Busy.SOME, "through(3, 0), of three", y -> y.through(3, 0), NONE);
        edges.refusedIn(Busy.NEW, "through(0, 0), of none", y -> y.through(0, 0), NONE);
        edges.changesNothing("through(0, 1)", y -> y.through(0, 1));
    }

    private void groups() {
        edges.due("nobody", new HalfMast().groups(), 0);
        edges.due("one alone", edges.one(99, 5, "0").groups(), 1);
        edges.due("six alone", edges.town(SIX).groups(), 6);
        edges.due("a chain is no group", edges.town(SIX + CHAIN).groups(), 6);
        edges.due("a ring of six", edges.town(SIX + CHAIN + "feels f a;").groups(), 1);
        edges.due("a ring of five", edges.town(SIX + CHAIN + "feels e a;").groups(), 2);
        edges.due("all feel all", everybody().groups(), 1);
        edges.due("three pairs", edges.town(SIX + "feels a f;feels f a;feels b e;feels e b;feels c d;feels d c;").groups(), 3);
        edges.due("a pair felt by a pair",
                edges.town(SIX + "feels a b;feels b a;feels c d;feels d c;feels a c;").groups(), 4);
        HalfMast x = edges.town(SIX + CHAIN + "feels f a;");
        x.feel(3, 4);
        edges.due("the ring is broken", x.groups(), 6);
        x.undo();
        edges.due("it is whole again", x.groups(), 1);
        edges.changesNothing("groups()", y -> y.groups());
    }

    private void deaf() {
        edges.due("nobody there is", new HalfMast().deaf(), 0);
        edges.due("one alone", edges.one(99, 5, "0").deaf(), 1);
        edges.due("all six", edges.town(SIX).deaf(), 63);
        edges.due("the last one", edges.town(SIX + CHAIN).deaf(), 32);
        edges.due("none", edges.town(SIX + CHAIN + "feels f a;").deaf(), 0);
        HalfMast x = edges.town(SIX + CHAIN);
        x.feel(0, 1);
        edges.due("the first one, too", x.deaf(), 33);
        edges.changesNothing("deaf()", y -> y.deaf());
    }

    private void alike() {
        edges.due("nobody", new HalfMast().alike(), 0);
        edges.due("one alone", edges.one(99, 5, "0").alike(), 0);
        edges.due("two alike", edges.town(Edges.persons("plain", 0, 0)).alike(), 1);
        edges.due("one more is not alike", edges.town(Edges.persons("plain", 59, 60)).alike(), 0);
        edges.due("six alike", edges.town(SIX).alike(), 15);
        edges.due("three and three", edges.town(Edges.persons("plain", 0, 60, 0, 60, 0, 60)).alike(), 6);
        edges.due("the first and the last", edges.town(Edges.persons("plain", 9, 1, 2, 3, 4, 9)).alike(), 1);
        edges.due("all apart", edges.town(Edges.persons("plain", 0, 1, 2, 3, 4, 5)).alike(), 0);
        edges.due("they lack alike, though they weigh otherwise",
                edges.town("person a plain lacks 4;person b widow lacks 4;person c child lacks 8;").alike(), 1);
        edges.changesNothing("alike()", x -> x.alike());
    }

    private void worse() {
        edges.due("nobody", new HalfMast().worse(), 0);
        edges.due("they feel nobody", edges.town(SIX).worse(), 0);
        edges.due("alike is not more", edges.town(SIX + CHAIN).worse(), 0);
        edges.due("one more", edges.town(Edges.persons("plain", 6, 5) + "feels a b;feels b a;").worse(), 1);
        edges.due("one less", edges.town(Edges.persons("plain", 4, 5) + "feels a b;").worse(), 0);
        edges.due("each but the last", edges.town(Edges.persons("plain", 60, 4, 3, 2, 1, 0) + CHAIN).worse(), 31);
        String all = "feels a b;feels a c;feels a d;feels a e;feels a f;";
        edges.due("more than all", edges.town(Edges.persons("plain", 9, 8, 8, 8, 8, 8) + all).worse(), 1);
        edges.due("but for one alike", edges.town(Edges.persons("plain", 9, 8, 8, 8, 8, 9) + all).worse(), 0);
        edges.due("but for the first one", edges.town(Edges.persons("plain", 9, 10, 8, 8, 8, 8) + all).worse(), 0);
        HalfMast x = edges.town(Edges.persons("plain", 9, 1) + "feels a b;");
        x.feel(0, 1);
        edges.due("there are none any more", x.worse(), 0);
        edges.changesNothing("worse()", y -> y.worse());
    }

    private void mean() {
        int[][] lacks = {{0}, {60}, {1, 0}, {1, 1}, {1, 2}, {60, 59}, {5, 5, 5, 5, 5, 4}, {5, 5, 5, 5, 5, 5}, {5, 5, 5, 5, 5, 6},
            {60, 60, 60, 60, 60, 60}, {0, 0, 0, 0, 0, 5}, {0, 0, 0, 0, 0, 6}};
        int[] due = {0, 60, 0, 1, 1, 59, 4, 5, 5, 60, 0, 1};
        for (int i = 0; i < due.length; i++) {
            edges.due("mean " + i, edges.town(Edges.persons("widow", lacks[i])).mean(), due[i]);
        }
    }

    private void meanOfNobody() {
        edges.due("nobody", new HalfMast().mean(), 0);
        HalfMast x = edges.one(99, 60, "0");
        edges.due("one", x.mean(), 60);
        x.town();
        edges.due("nobody any more", x.mean(), 0);
        edges.changesNothing("mean()", y -> y.mean());
    }

    private void hearts() {
        HalfMast x = edges.town(SIX + "feels b a;feels c a;feels d a;feels e a;feels f a;feels a f;");
        edges.due("all others", x.hearts(0), 62);
        edges.due("the first one", x.hearts(5), 1);
        edges.due("none", x.hearts(1), 0);
        x.feel(5, 0);
        edges.due("f not any more", x.hearts(0), 30);
        x.feel(0, 1);
        edges.due("a now", x.hearts(1), 1);
        edges.due("not through others", edges.town(SIX + CHAIN).hearts(2), 2);
    }

    private void heartsOthers() {
        for (int wrong : NOBODY) {
            edges.refused("hearts(" + wrong + ")", x -> x.hearts(wrong), NONE);
        }
        edges.refusedIn(Busy.SOME, "hearts(3), of three", x -> x.hearts(3), NONE);
        edges.refusedIn(Busy.NEW, "hearts(0), of none", x -> x.hearts(0), NONE);
        edges.changesNothing("hearts(0)", x -> x.hearts(0));
    }
}
