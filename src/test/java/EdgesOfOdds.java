import java.math.BigInteger;

/** Promises 43 to 45, chance, rests, years: boundary cases. */
final class EdgesOfOdds {
    private static final int NONE = HalfMast.NONE;

    private final Edges edges;

    EdgesOfOdds(Edges edges) {
        this.edges = edges;
    }

    void all() {
        edges.of(43, "CHANCE: ahead of each of so many (1 to 6) DAYS a PERSON LOSES 3, by odds of ten", this::chance);
        edges.of(43, "that it stands below a height (1 to 99) behind these, in millionths, cut.", this::belowAHeight);
        edges.of(43, "CHANCE, by odds (0 to 10); NONE: others.", this::chanceOthers);
        edges.of(44, "both haul: each gets so much (0 to 9); one hauls: he loses so much (0 to 9), the other one gets so much "
                + "(0 to 9); both wait: nothing", this::rests);
        edges.of(44, "RESTS: by which neither would get more by the other.", this::neitherWouldGetMore);
        edges.of(44, "what NONE: how many; i: the i-th as 2 * the first one's choice + the other one's (1 hauls; the least first). "
                + "NoSuchElementException: others, none such.", this::restsOthers);
        edges.of(45, "A DRAW below m: g becomes (g * 1103515245 + 12345) modulo 2147483648 (g is the SEED at first); it is g / 65536, "
                + "cut, modulo m.", this::draws);
        edges.of(45, "YEARS by a SEED of so many DAYS (1 to 99), from now on (all is as ahead then)", this::yearsFromNow);
        edges.of(45, "one below 4: 0, 1: a DRAW below 20 and 1: so much is LOST, 2: so much is GOT (a DRAW below 20 and 1, too), "
                + "3: SPARED; then the DAY", this::deedsByDraws);
        edges.of(45, "how often it moved by these and the DAYS, together; how high it stands at last; what all lack at last.",
                this::whatYearsTell);
        edges.of(45, "each, if there are PERSONS: a DRAW below these", this::yearsOfNobody);
        edges.of(45, "YEARS by a SEED (0 to 9999), what 0: how often, 1: how high, 2: lacks; NONE: others.", this::yearsOthers);
    }

    // ---- chance ----

    private void chance() {
        HalfMast x = edges.town("person a plain lacks 0;person b plain lacks 0;weighs 3;mast 10;fares 0;");
        // Height, days, odds, millionths: each tooth is an inch.
        int[][] due = {{10, 1, 0, 0}, {10, 1, 1, 100000}, {10, 1, 9, 900000}, {10, 1, 10, 1000000}, {10, 6, 1, 468559}, {5, 6, 1, 1},
            {5, 6, 9, 531441}, {10, 6, 9, 999999}, {5, 6, 10, 1000000}, {4, 6, 10, 0}, {10, 6, 0, 0}, {11, 6, 0, 1000000},
            {6, 5, 1, 10}, {9, 2, 5, 250000}};
        for (int[] c : due) {
            for (int person = 0; person < 2; person++) {
                edges.due("chance(" + person + ", " + c[0] + ", " + c[1] + ", " + c[2] + ")", x.chance(person, c[0], c[1], c[2]), c[3]);
            }
        }
        // 3 ahead of the DAY are 3 less behind it.
        x = edges.one(99, 0, "0-3");
        edges.due("ahead of the DAY", x.chance(0, 99, 1, 10), 0);
        edges.due("ahead of each of them", x.chance(0, 99, 6, 10), 0);
        x = edges.one(99, 0, "(gone = 3) * 5");
        edges.due("8 behind the DAY", x.chance(0, 92, 1, 7), 700000);
        edges.due("not below 91", x.chance(0, 91, 1, 7), 0);
        x = edges.one(99, 58, "0");
        edges.due("60 at most", x.chance(0, 40, 6, 10), 1000000);
        edges.due("not 61", x.chance(0, 39, 6, 10), 0);
        x = edges.one(99, 0, "date * 2");
        x.day();
        edges.due("from now on: 2 and 3 by DAY 1", x.chance(0, 95, 1, 4), 400000);
    }

    private void belowAHeight() {
        HalfMast x = edges.one(10, 5, "0");
        edges.due("at it is not below it", x.chance(0, 5, 6, 0), 0);
        edges.due("an inch below it", x.chance(0, 6, 6, 0), 1000000);
        edges.due("by 3: at 2", x.chance(0, 2, 1, 10), 0);
        edges.due("by 3: below 3", x.chance(0, 3, 1, 10), 1000000);
        edges.due("the ground is below 1", x.chance(0, 1, 2, 10), 1000000);
        edges.due("by both teeth alone", x.chance(0, 1, 2, 3), 90000);
        edges.due("the mast is below 99", edges.one(98, 0, "0").chance(0, 99, 1, 0), 1000000);
        edges.due("the mast is not below 99", edges.one(99, 0, "0").chance(0, 99, 1, 0), 0);
        edges.due("one millionth", edges.one(19, 0, "0").chance(0, 2, 6, 1), 1);
        edges.due("all but one millionth", edges.one(19, 0, "0").chance(0, 19, 6, 9), 999999);
    }

    private void chanceOthers() {
        for (int wrong : new int[] {-1, 6, 7, 64, Edges.LEAST_INT, Edges.MOST_INT}) {
            edges.refused("chance(" + wrong + ", 50, 3, 5)", x -> x.chance(wrong, 50, 3, 5), NONE);
        }
        for (int wrong : new int[] {0, 100, -1, Edges.LEAST_INT, Edges.MOST_INT}) {
            edges.refused("chance(0, " + wrong + ", 3, 5)", x -> x.chance(0, wrong, 3, 5), NONE);
        }
        for (int wrong : new int[] {0, 7, -1, 32, Edges.LEAST_INT, Edges.MOST_INT}) {
            edges.refused("chance(0, 50, " + wrong + ", 5)", x -> x.chance(0, 50, wrong, 5), NONE);
        }
        for (int wrong : new int[] {-1, 11, Edges.LEAST_INT, Edges.MOST_INT}) {
            edges.refused("chance(0, 50, 3, " + wrong + ")", x -> x.chance(0, 50, 3, wrong), NONE);
        }
        edges.refusedIn(Busy.SOME, "chance(3, 50, 3, 5), of three", x -> x.chance(3, 50, 3, 5), NONE);
        edges.refusedIn(Busy.NEW, "chance(0, 50, 3, 5), of none", x -> x.chance(0, 50, 3, 5), NONE);
        edges.changesNothing("chance(0, 50, 6, 5)", x -> x.chance(0, 50, 6, 5));
        edges.changesNothing("chance(0, 1, 1, 10)", x -> x.chance(0, 1, 1, 10));
    }

    // ---- rests ----

    private void dueRests(int both, int loses, int gets, int... due) {
        HalfMast x = new HalfMast();
        String call = "rests(" + both + ", " + loses + ", " + gets + ", ";
        edges.due(call + "NONE)", Check.rests(x, both, loses, gets, NONE), due.length);
        for (int i = 0; i <= 4; i++) {
            edges.due(call + i + ")", Check.rests(x, both, loses, gets, i), i < due.length ? due[i] : Check.THROWN);
        }
    }

    private void rests() {
        dueRests(0, 0, 0, 0, 1, 2, 3);
        dueRests(9, 9, 9, 0, 3);
        dueRests(9, 0, 0, 0, 3);
        dueRests(0, 9, 0, 0, 3);
        dueRests(0, 0, 9, 0, 1, 2);
        dueRests(0, 9, 9, 0);
        dueRests(9, 0, 9, 0, 1, 2, 3);
        dueRests(9, 9, 0, 0, 3);
        for (int wrong : new int[] {-1, 10, Edges.LEAST_INT, Edges.MOST_INT}) {
            for (int what = NONE; what <= 1; what++) {
                int asked = what;
                edges.refused("rests(" + wrong + ", 1, 1, " + what + ")", x -> Check.rests(x, wrong, 1, 1, asked), Check.THROWN);
                edges.refused("rests(1, " + wrong + ", 1, " + what + ")", x -> Check.rests(x, 1, wrong, 1, asked), Check.THROWN);
                edges.refused("rests(1, 1, " + wrong + ", " + what + ")", x -> Check.rests(x, 1, 1, wrong, asked), Check.THROWN);
            }
        }
    }

    private void neitherWouldGetMore() {
        // Both haul: by waiting one gets what the other one gets. One hauls: he would lose nothing by waiting.
        dueRests(3, 1, 2, 0, 3);
        dueRests(3, 1, 3, 0, 3);
        dueRests(3, 1, 4, 0);
        dueRests(3, 0, 4, 0, 1, 2);
        dueRests(4, 0, 4, 0, 1, 2, 3);
        dueRests(5, 0, 4, 0, 3);
        dueRests(0, 1, 0, 0, 3);
        dueRests(0, 1, 1, 0);
    }

    private void restsOthers() {
        for (int i = 0; i < 4; i++) {
            int asked = i;
            edges.changesNothing("rests(0, 0, 0, " + i + ")", x -> Check.rests(x, 0, 0, 0, asked));
        }
        edges.changesNothing("rests(0, 0, 0, NONE)", x -> Check.rests(x, 0, 0, 0, NONE));
        for (int wrong : new int[] {-2, 4, 5, Edges.LEAST_INT, Edges.MOST_INT}) {
            edges.refused("rests(0, 0, 0, " + wrong + ")", x -> Check.rests(x, 0, 0, 0, wrong), Check.THROWN);
        }
        edges.refused("rests(9, 9, 9, 2), of two", x -> Check.rests(x, 9, 9, 9, 2), Check.THROWN);
        edges.refused("rests(0, 9, 9, 1), of one", x -> Check.rests(x, 0, 9, 9, 1), Check.THROWN);
    }

    // ---- years ----

    /** The DRAWS of a SEED, reckoned without a bound. */
    private static final class Draws {
        private BigInteger g;

        Draws(int seed) {
            g = BigInteger.valueOf(seed);
        }

        int below(int most) {
            g = g.multiply(BigInteger.valueOf(1103515245)).add(BigInteger.valueOf(12345)).mod(BigInteger.valueOf(2147483648L));
            return g.divide(BigInteger.valueOf(65536)).mod(BigInteger.valueOf(most)).intValue();
        }
    }

    /** The same by hand: how often it moved. */
    private static int byHand(HalfMast x, int seed, int days) {
        Draws draws = new Draws(seed);
        int persons = x.count(0);
        int moved = 0;
        for (int i = 0; i < days; i++) {
            int before = x.high();
            if (persons > 0) {
                int who = draws.below(persons);
                int deed = draws.below(4);
                if (deed == 3) {
                    x.spare(who);
                } else if (deed == 2) {
                    x.get(who, draws.below(20) + 1);
                } else {
                    x.lose(who, draws.below(20) + 1);
                }
            }
            moved += x.high() != before ? 1 : 0;
            moved += x.day() != 0 ? 1 : 0;
        }
        return moved;
    }

    private void dueYears(String town, int seed, int days) {
        HalfMast x = edges.town(town);
        HalfMast y = edges.town(town);
        int moved = byHand(y, seed, days);
        String call = "years(" + seed + ", " + days + ", ";
        edges.due(call + "0)", x.years(seed, days, 0), moved);
        edges.due(call + "1)", x.years(seed, days, 1), y.high());
        edges.due(call + "2)", x.years(seed, days, 2), y.count(5));
    }

    private void draws() {
        String one = "person a plain lacks 30;weighs 1;mast 99;fares 0;";
        String three = "person a lover lacks 9;person b widow lacks 50;person c child lacks 1;weighs 3;mast 80;rounds near;feels a b;"
                + "feels b c;fares felt*2-1;";
        String six = Edges.persons("plain", 0, 0, 60, 60, 30, 30) + "weighs 2;mast 99;fares (high<60)*(0-2)+1;";
        for (int seed : new int[] {0, 1, 2, 3, 4, 5, 6, 7, 8, 9, 42, 4095, 9998, 9999}) {
            for (int days : new int[] {1, 2, 98, 99}) {
                dueYears(one, seed, days);
                dueYears(three, seed, days);
                dueYears(six, seed, days);
            }
        }
        // By SEED 1 the first three DRAWS are 16838, 5758, 10113: below 3, below 4, below 20.
        HalfMast x = edges.town(Edges.persons("plain", 20, 20, 20) + "weighs 1;mast 99;fares 0;");
        edges.due("16838 below 3 is 2, 5758 below 4 is 2, 10113 below 20 and 1 is 14: got", x.years(1, 1, 2), 46);
        edges.due("it moved once", x.years(1, 1, 0), 1);
        edges.due("up", x.years(1, 1, 1), 53);
    }

    /** A SEED by which the one person there is has this deed, by this much, on the first DAY. */
    private static int seedOf(int deed, int much) {
        for (int seed = 0; seed <= 9999; seed++) {
            Draws draws = new Draws(seed);
            if (draws.below(1) == 0 && draws.below(4) == deed && (deed == 3 || draws.below(20) + 1 == much)) {
                return seed;
            }
        }
        return NONE;
    }

    private void deedsByDraws() {
        for (int much : new int[] {1, 2, 19, 20}) {
            for (int deed = 0; deed < 3; deed++) {
                int more = deed == 2 ? -much : much;
                int seed = seedOf(deed, much);
                edges.due("30 and " + more, edges.one(99, 30, "0").years(seed, 1, 2), 30 + more);
                edges.due("then the DAY", edges.one(99, 30, "0-(gone=" + (30 + more) + ")*9").years(seed, 1, 2), 30 + more - 9);
            }
        }
        edges.due("60 at most", edges.one(99, 50, "0").years(seedOf(0, 20), 1, 2), 60);
        edges.due("60 at most", edges.one(99, 50, "0").years(seedOf(1, 20), 1, 2), 60);
        edges.due("0 at least", edges.one(99, 10, "0").years(seedOf(2, 20), 1, 2), 0);
        for (int lacks : new int[] {0, 1, 60}) {
            edges.due("SPARED", edges.one(99, lacks, "0").years(seedOf(3, 0), 1, 2), 0);
            edges.due("SPARED, then the DAY", edges.one(99, lacks, "4").years(seedOf(3, 0), 1, 2), 4);
        }
        // Who is spared has no DRAW below 20: the next one is the next DAY's.
        int seed = seedOf(3, 0);
        Draws draws = new Draws(seed);
        draws.below(1);
        draws.below(4);
        draws.below(1);
        int deed = draws.below(4);
        int much = deed == 3 ? 60 : draws.below(20) + 1;
        edges.due("the next DAY", edges.one(99, 60, "9").years(seed, 2, 2), Math.max(0, deed >= 2 ? 9 - much : 9 + much) + 9);
    }

    private void whatYearsTell() {
        int lost = seedOf(0, 5);
        edges.due("by the deed and by the DAY", edges.one(99, 30, "1").years(lost, 1, 0), 2);
        edges.due("by the deed alone", edges.one(99, 30, "0").years(lost, 1, 0), 1);
        edges.due("there and back is twice", edges.one(99, 30, "0-5").years(lost, 1, 0), 2);
        edges.due("as high as at first", edges.one(99, 30, "0-5").years(lost, 1, 1), 69);
        edges.due("at 60 by neither", edges.one(99, 60, "9").years(lost, 1, 0), 0);
        edges.due("at 60 by the DAY alone", edges.one(99, 60, "0-9").years(lost, 1, 0), 1);
        edges.due("less than an inch", edges.town("person a plain lacks 0;weighs 20;fares 1;").years(lost, 1, 0), 0);
        edges.due("at the ground", edges.one(5, 0, "9").years(lost, 1, 1), 0);
        edges.due("at the ground once", edges.one(5, 0, "9").years(lost, 1, 0), 1);
        edges.due("what all lack", edges.one(5, 0, "9").years(lost, 1, 2), 14);
    }

    private void yearsFromNow() {
        for (int days : new int[] {1, 99}) {
            for (int what = 0; what <= 2; what++) {
                int asked = what;
                edges.changesNothing("years(5, " + days + ", " + what + ")", x -> x.years(5, days, asked));
            }
        }
        HalfMast x = edges.one(99, 0, "date");
        HalfMast y = edges.one(99, 0, "date");
        Edges.times(3, x::day);
        Edges.times(3, y::day);
        x.lose(0, 7);
        y.lose(0, 7);
        int first = x.years(77, 9, 2);
        edges.due("the same again", x.years(77, 9, 2), first);
        byHand(y, 77, 9);
        edges.due("from now on", first, y.count(5));
        edges.due("0 at least, 60 at most", edges.one(99, 60, "9").years(0, 99, 2) <= 60, true);
    }

    private void yearsOfNobody() {
        HalfMast x = edges.town("mast 99;fares 9;");
        for (int days : new int[] {1, 99}) {
            edges.due("how often", x.years(0, days, 0), 0);
            edges.due("how high", x.years(9999, days, 1), 99);
            edges.due("lacks", x.years(5, days, 2), 0);
        }
    }

    private void yearsOthers() {
        HalfMast x = edges.one(99, 10, "1");
        edges.due("SEED 0, 1 DAY", x.years(0, 1, 0) >= 0, true);
        edges.due("SEED 9999, 99 DAYS", x.years(9999, 99, 2) >= 0, true);
        for (int wrong : new int[] {-1, 10000, Edges.LEAST_INT, Edges.MOST_INT}) {
            edges.refused("years(" + wrong + ", 5, 1)", y -> y.years(wrong, 5, 1), NONE);
        }
        for (int wrong : new int[] {0, 100, -1, Edges.LEAST_INT, Edges.MOST_INT}) {
            edges.refused("years(5, " + wrong + ", 1)", y -> y.years(5, wrong, 1), NONE);
        }
        for (int wrong : new int[] {-1, 3, Edges.LEAST_INT, Edges.MOST_INT}) {
            edges.refused("years(5, 5, " + wrong + ")", y -> y.years(5, 5, wrong), NONE);
        }
    }
}
