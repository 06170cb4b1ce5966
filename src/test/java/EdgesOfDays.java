/** Promises 14 to 18 and 35 to 39, DAYS going by: boundary cases. */
final class EdgesOfDays {
    private static final int NONE = HalfMast.NONE;
    private static final int[] NOT_1_TO_60 = {0, 61, -1, 62, Edges.LEAST_INT, Edges.MOST_INT};

    private final Edges edges;

    EdgesOfDays(Edges edges) {
        this.edges = edges;
    }

    void all() {
        edges.of(14, "LATER: how high it stands behind so many (0 to 60) DAYS.", this::later);
        edges.of(14, "LATER; NONE: others.", this::laterOthers);
        edges.of(15, "SILL: behind how many (0 to 60) it stands at a height or below for the first time.", this::sill);
        edges.of(15, "SILL; NONE: others (0 to 99), not by 60.", this::sillOthers);
        edges.of(16, "MOVES: how often it moves in so many (1 to 60) DAYS.", this::moves);
        edges.of(16, "MOVES; NONE: others.", this::movesOthers);
        edges.of(17, "SETTLED: behind how many (0 to 60) DAYS one more would change nobody any more.", this::settled);
        edges.of(17, "SETTLED; NONE: not by 60.", this::notSettled);
        edges.of(18, "LOWEST: behind how many (0 to 60) it stands the lowest; of equal ones the first.", this::lowest);
        edges.of(35, "RISES: how many DAYS of so many (1 to 60) end with the flag higher than they began.", this::rises);
        edges.of(35, "RISES; NONE: others.", this::risesOthers);
        edges.of(36, "TURN: the first DAY (1 to 60) by which the flag moves the other way than the last time it moved in these DAYS.",
                this::turn);
        edges.of(36, "TURN; NONE: none.", this::noTurn);
        edges.of(37, "RANGE: the highest less the lowest that it stands in so many (1 to 60) DAYS, now too.", this::range);
        edges.of(37, "RANGE; NONE: others.", this::rangeOthers);
        edges.of(38, "FAITH of a PERSON: in how many of 20 DAYS what they lack stays as it is.", this::faith);
        edges.of(38, "FAITH; NONE: others.", this::faithOthers);
        edges.of(39, "BLAME: the PERSON by whom, were they SPARED now, it would stand the highest behind so many (0 to 20) DAYS; "
                + "of equal ones the first.", this::blame);
        edges.of(39, "BLAME; NONE: others, nobody.", this::blameOthers);
    }

    private void later() {
        HalfMast x = edges.one(99, 0, "1");
        int[][] due = {{0, 99}, {1, 98}, {2, 97}, {59, 40}, {60, 39}};
        for (int[] c : due) {
            edges.due("later(" + c[0] + ")", x.later(c[0]), c[1]);
        }
        x = edges.one(99, 0, "date = 59");
        edges.due("the 60th DAY not yet", x.later(59), 99);
        edges.due("the 60th DAY", x.later(60), 98);
        edges.due("the 61st DAY not", edges.one(99, 0, "date = 60").later(60), 99);
        x = edges.one(99, 0, "date = 60");
        x.day();
        edges.due("from now on", x.later(60), 98);
        edges.due("at the ground", edges.one(5, 0, "9").later(1), 0);
        edges.due("nobody", new HalfMast().later(60), 40);
    }

    private void laterOthers() {
        for (int wrong : new int[] {-1, 61, 62, Edges.LEAST_INT, Edges.MOST_INT}) {
            edges.refused("later(" + wrong + ")", x -> x.later(wrong), NONE);
        }
        edges.changesNothing("later(0)", x -> x.later(0));
        edges.changesNothing("later(60)", x -> x.later(60));
    }

    private void sill() {
        HalfMast x = edges.one(99, 0, "1");
        int[][] due = {{99, 0}, {98, 1}, {97, 2}, {40, 59}, {39, 60}, {38, NONE}, {0, NONE}};
        for (int[] c : due) {
            edges.due("sill(" + c[0] + ")", x.sill(c[0]), c[1]);
        }
        x = edges.one(99, 0, "9");
        int[][] jumps = {{99, 0}, {98, 1}, {91, 1}, {90, 1}, {89, 2}, {81, 2}, {80, 3}, {39, 7}, {38, NONE}};
        for (int[] c : jumps) {
            edges.due("by nine, sill(" + c[0] + ")", x.sill(c[0]), c[1]);
        }
        // Down to 96 by the third DAY, up to 99 by the sixth, and down for good.
        x = edges.one(99, 0, "(date<3) - (2<date)*(date<6) + (5<date)");
        edges.due("for the first time, 97", x.sill(97), 2);
        edges.due("for the first time, 96", x.sill(96), 3);
        edges.due("for the first time, 95", x.sill(95), 10);
        edges.due("the ground", edges.one(40, 0, "1").sill(0), 40);
        edges.due("an inch above it", edges.one(40, 0, "1").sill(1), 39);
        edges.due("at the ground now", edges.one(5, 5, "0").sill(0), 0);
        edges.due("above the mast", edges.one(1, 0, "0").sill(99), 0);
        edges.due("at the mast", edges.one(1, 0, "0").sill(1), 0);
    }

    private void sillOthers() {
        edges.due("by 60", edges.one(99, 0, "date = 59").sill(98), 60);
        edges.due("not by 60", edges.one(99, 0, "date = 60").sill(98), NONE);
        edges.due("0 is a height", edges.one(9, 9, "0").sill(0), 0);
        edges.due("99 is a height", edges.one(99, 0, "0").sill(99), 0);
        edges.due("never", edges.one(99, 0, "0").sill(98), NONE);
        for (int wrong : new int[] {-1, 100, Edges.LEAST_INT, Edges.MOST_INT}) {
            edges.refused("sill(" + wrong + ")", x -> x.sill(wrong), NONE);
        }
        edges.changesNothing("sill(0)", x -> x.sill(0));
        edges.changesNothing("sill(99)", x -> x.sill(99));
    }

    private void moves() {
        HalfMast x = edges.one(99, 0, "1");
        edges.due("in 1", x.moves(1), 1);
        edges.due("in 59", x.moves(59), 59);
        edges.due("in 60", x.moves(60), 60);
        edges.due("up and down", edges.one(99, 0, "1 - 2 * gone").moves(60), 60);
        edges.due("never", edges.one(99, 0, "0").moves(60), 0);
        x = edges.one(99, 0, "date = 59");
        edges.due("in 59, by the 60th", x.moves(59), 0);
        edges.due("in 60, by the 60th", x.moves(60), 1);
        edges.due("in 60, by the 61st", edges.one(99, 0, "date = 60").moves(60), 0);
        edges.due("in 1, by the 1st", edges.one(99, 0, "date = 0").moves(1), 1);
        edges.due("in 1, by the 2nd", edges.one(99, 0, "date = 1").moves(1), 0);
        edges.due("not below the ground", edges.one(5, 0, "1").moves(60), 5);
        edges.due("less than an inch", edges.town("person a plain lacks 0;weighs 20;fares date<19;").moves(60), 0);
        edges.due("by nine it is still once", edges.one(99, 0, "9*(date=3)").moves(60), 1);
    }

    private void movesOthers() {
        for (int wrong : NOT_1_TO_60) {
            edges.refused("moves(" + wrong + ")", x -> x.moves(wrong), NONE);
        }
        edges.changesNothing("moves(60)", x -> x.moves(60));
    }

    private void settled() {
        edges.due("at once", edges.one(99, 0, "0").settled(), 0);
        edges.due("at 0, by less", edges.one(99, 0, "0-9").settled(), 0);
        edges.due("at 60, by more", edges.one(99, 60, "9").settled(), 0);
        edges.due("behind 1", edges.one(99, 59, "9").settled(), 1);
        edges.due("behind 59", edges.one(99, 1, "1").settled(), 59);
        edges.due("behind 60", edges.one(99, 0, "1").settled(), 60);
        edges.due("nobody", new HalfMast().settled(), 0);
        HalfMast x = edges.town(Edges.persons("child", 0, 0, 0, 0, 0, 1) + "weighs 20;");
        edges.due("of the last one, though the flag stays", x.settled(), 1);
        edges.due("one more, not all that come", edges.one(99, 0, "date = 5").settled(), 0);
        edges.due("behind the one that does", edges.one(99, 0, "date = 0").settled(), 1);
    }

    private void notSettled() {
        String swings = "1 - 2 * gone";
        edges.due("never", edges.one(99, 0, swings).settled(), NONE);
        edges.due("behind 59", edges.one(99, 0, "(date < 59) * (" + swings + ")").settled(), 59);
        edges.due("behind 60", edges.one(99, 0, "(date < 60) * (" + swings + ")").settled(), 60);
        edges.due("behind 61", edges.one(99, 0, "(date < 61) * (" + swings + ")").settled(), NONE);
        edges.changesNothing("settled()", x -> x.settled());
    }

    private void lowest() {
        edges.due("now", edges.one(99, 9, "0-1").lowest(), 0);
        edges.due("of equal ones now", edges.one(99, 9, "0").lowest(), 0);
        edges.due("behind 1", edges.one(99, 0, "date = 0").lowest(), 1);
        edges.due("behind 59", edges.one(99, 0, "date < 59").lowest(), 59);
        edges.due("behind 60", edges.one(99, 0, "1").lowest(), 60);
        edges.due("by the 60th", edges.one(99, 0, "date = 59").lowest(), 60);
        edges.due("by the 61st", edges.one(99, 0, "date = 60").lowest(), 0);
        edges.due("of equal ones the first", edges.one(99, 0, "1 - 2 * gone").lowest(), 1);
        edges.due("at the ground the first time", edges.one(7, 0, "1").lowest(), 7);
        edges.due("lower a second time", edges.one(99, 0, "(date=0) - (date=1) + 2*(date=2)").lowest(), 3);
        edges.due("nobody", new HalfMast().lowest(), 0);
        edges.changesNothing("lowest()", x -> x.lowest());
    }

    private void rises() {
        HalfMast x = edges.one(99, 60, "0-1");
        edges.due("1 of 1", x.rises(1), 1);
        edges.due("59 of 59", x.rises(59), 59);
        edges.due("60 of 60", x.rises(60), 60);
        edges.due("0 of 60", edges.one(99, 0, "1").rises(60), 0);
        edges.due("as it was is not higher", edges.one(99, 5, "0").rises(60), 0);
        edges.due("30 of 60", edges.one(99, 0, "1 - 2 * gone").rises(60), 30);
        edges.due("29 of 59", edges.one(99, 0, "1 - 2 * gone").rises(59), 29);
        x = edges.one(99, 5, "0 - (date = 59)");
        edges.due("the 60th of 59", x.rises(59), 0);
        edges.due("the 60th of 60", x.rises(60), 1);
        edges.due("the 61st of 60", edges.one(99, 5, "0 - (date = 60)").rises(60), 0);
        edges.due("the first of 1", edges.one(99, 5, "0 - (date = 0)").rises(1), 1);
        edges.due("below the ground", edges.one(1, 60, "0-1").rises(59), 0);
        edges.due("from the ground", edges.one(1, 60, "0-1").rises(60), 1);
    }

    private void risesOthers() {
        for (int wrong : NOT_1_TO_60) {
            edges.refused("rises(" + wrong + ")", x -> x.rises(wrong), NONE);
        }
        edges.changesNothing("rises(60)", x -> x.rises(60));
    }

    private void turn() {
        edges.due("DAY 2, down and up", edges.one(99, 0, "(date=0) - (date=1)").turn(), 2);
        edges.due("DAY 2, up and down", edges.one(99, 9, "(date=1) - (date=0)").turn(), 2);
        edges.due("DAY 59", edges.one(99, 0, "(date<58) * 2 - 1").turn(), 59);
        edges.due("DAY 60", edges.one(99, 0, "(date<59) * 2 - 1").turn(), 60);
        edges.due("DAY 61", edges.one(99, 0, "(date<60) * 2 - 1").turn(), NONE);
        edges.due("the last time it moved was DAY 1", edges.one(99, 0, "(date=0) - (date=59)").turn(), 60);
        edges.due("twice the same way, then the other", edges.one(99, 0, "(date=0) + (date=3) - (date=7)").turn(), 8);
        edges.due("the first of two", edges.one(99, 0, "1 - 2 * gone").turn(), 2);
    }

    private void noTurn() {
        edges.due("it never moves", edges.one(99, 5, "0").turn(), NONE);
        edges.due("it moves once", edges.one(99, 5, "date = 0").turn(), NONE);
        edges.due("always down", edges.one(99, 0, "1").turn(), NONE);
        edges.due("always up", edges.one(99, 60, "0-1").turn(), NONE);
        edges.due("nobody", new HalfMast().turn(), NONE);
        HalfMast x = edges.one(99, 9, "0-1");
        x.lose(0, 5);
        edges.due("what moved it ahead of these DAYS does not count", x.turn(), NONE);
        x = edges.one(99, 0, "(date=0) - (date=1)");
        x.day();
        edges.due("nor does a DAY ahead of them", x.turn(), NONE);
        edges.changesNothing("turn()", y -> y.turn());
    }

    private void range() {
        HalfMast x = edges.one(99, 0, "1");
        edges.due("of 1, now too", x.range(1), 1);
        edges.due("of 59", x.range(59), 59);
        edges.due("of 60", x.range(60), 60);
        edges.due("up, now too", edges.one(99, 60, "0-1").range(60), 60);
        edges.due("none", edges.one(99, 5, "0").range(60), 0);
        x = edges.one(99, 0, "date = 59");
        edges.due("of 59, by the 60th", x.range(59), 0);
        edges.due("of 60, by the 60th", x.range(60), 1);
        edges.due("of 60, by the 61st", edges.one(99, 0, "date = 60").range(60), 0);
        edges.due("the highest and the lowest between",
                edges.one(99, 5, "2*(date=0) - 4*(date=1) + 2*(date=2)").range(60), 4);
        String six = Edges.persons("widow", 0, 0, 0, 0, 0, 0) + "weighs 1;mast 99;fares 9;";
        edges.due("from the mast to the ground", edges.town(six).range(1), 99);
        edges.due("nobody", new HalfMast().range(1), 0);
    }

    private void rangeOthers() {
        for (int wrong : NOT_1_TO_60) {
            edges.refused("range(" + wrong + ")", x -> x.range(wrong), NONE);
        }
        edges.changesNothing("range(60)", x -> x.range(60));
    }

    private void faith() {
        edges.due("in all 20", edges.one(99, 5, "0").faith(0), 20);
        edges.due("in none", edges.one(99, 5, "1 - 2 * (5 < gone)").faith(0), 0);
        edges.due("not by the first", edges.one(99, 5, "date = 0").faith(0), 19);
        edges.due("not by the 20th", edges.one(99, 5, "date = 19").faith(0), 19);
        edges.due("the 21st does not count", edges.one(99, 5, "date = 20").faith(0), 20);
        edges.due("at 0 it can't be less", edges.one(99, 0, "0-1").faith(0), 20);
        edges.due("at 60 it can't be more", edges.one(99, 60, "9").faith(0), 20);
        edges.due("60 behind one DAY", edges.one(99, 52, "9").faith(0), 19);
        edges.due("0 behind 20 DAYS", edges.one(99, 20, "0-1").faith(0), 0);
        edges.due("0 behind 19 DAYS", edges.one(99, 19, "0-1").faith(0), 1);
        edges.due("not as now, as the day before", edges.one(99, 5, "(date=0) - (date=10)").faith(0), 18);
        HalfMast x = edges.town(Edges.persons("plain", 5, 0, 0, 0, 0, 7));
        edges.due("of the first", x.faith(0), 15);
        edges.due("of the last", x.faith(5), 13);
    }

    private void faithOthers() {
        for (int wrong : new int[] {-1, 6, 7, 64, Edges.LEAST_INT, Edges.MOST_INT}) {
            edges.refused("faith(" + wrong + ")", x -> x.faith(wrong), NONE);
        }
        edges.refusedIn(Busy.SOME, "faith(3), of three", x -> x.faith(3), NONE);
        edges.refusedIn(Busy.NEW, "faith(0), of none", x -> x.faith(0), NONE);
        edges.changesNothing("faith(0)", x -> x.faith(0));
    }

    private void blame() {
        // Who lacks 9 lacks 18 behind the DAY that the law names: then b is worth more to be spared, who lacks 10.
        String two = Edges.persons("plain", 10, 9) + "weighs 1;mast 99;fares (gone = 9) * 9 * ";
        HalfMast x = edges.town(two + "(date = 19);");
        edges.due("now", x.blame(0), 0);
        edges.due("behind 19", x.blame(19), 0);
        edges.due("behind 20", x.blame(20), 1);
        edges.due("the 21st does not count", edges.town(two + "(date = 20);").blame(20), 0);
        edges.due("behind 1", edges.town(two + "(date = 0);").blame(1), 1);
        edges.due("behind 0, by the first", edges.town(two + "(date = 0);").blame(0), 0);
        edges.due("of equal ones the first", edges.town(Edges.persons("plain", 3, 9, 9, 9, 9, 9) + "weighs 1;").blame(0), 1);
        edges.due("the last one", edges.town(Edges.persons("plain", 3, 3, 3, 3, 3, 4) + "weighs 1;").blame(0), 5);
        edges.due("all alike", edges.town(Edges.persons("plain", 0, 0, 0)).blame(20), 0);
        edges.due("all at the ground", edges.town(Edges.persons("widow", 50, 60, 60) + "mast 1;weighs 1;").blame(0), 0);
        edges.due("one alone", edges.one(99, 0, "9").blame(20), 0);
        edges.due("an inch more", edges.town(Edges.persons("plain", 6, 12)).blame(0), 1);
        edges.due("less than an inch more", edges.town(Edges.persons("plain", 6, 11)).blame(0), 0);
    }

    private void blameOthers() {
        for (int wrong : new int[] {-1, 21, 60, Edges.LEAST_INT, Edges.MOST_INT}) {
            edges.refused("blame(" + wrong + ")", x -> x.blame(wrong), NONE);
        }
        edges.refusedIn(Busy.NEW, "blame(0), nobody", x -> x.blame(0), NONE);
        edges.refusedIn(Busy.NEW, "blame(20), nobody", x -> x.blame(20), NONE);
        edges.changesNothing("blame(0)", x -> x.blame(0));
        edges.changesNothing("blame(20)", x -> x.blame(20));
    }
}
