/** Promises 14 to 18 and 35 to 39: what days bring that go by with nothing else being done. */
public final class DaysTest {
    private static final Check CHECK = new Check("DaysTest");
    private static final String ANN = "person ann plain lacks 0 ; weighs 1 ; mast 40 ; ";

    public static void main(String[] args) {
        downAndUp();
        settling();
        edgesOfSixty();
        turning();
        keepingFaith();
        blaming();
        others();
        nothingIsDone();
        CHECK.finish();
    }

    /** It sinks by an inch on each of five days, and rises by one on each of the next five. */
    private static void downAndUp() {
        HalfMast x = Check.in(ANN + "fares (date < 5) * 2 - 1 ;");
        int[][] later = {{0, 40}, {1, 39}, {4, 36}, {5, 35}, {6, 36}, {10, 40}, {11, 40}, {60, 40}};
        for (int[] c : later) {
            CHECK.due("later " + c[0], x.later(c[0]), c[1]);
        }
        int[][] sill = {{99, 0}, {40, 0}, {39, 1}, {36, 4}, {35, 5}, {34, -1}, {0, -1}};
        for (int[] c : sill) {
            CHECK.due("sill " + c[0], x.sill(c[0]), c[1]);
        }
        // Days, then how often it moves, how often it rises, its range.
        int[][] moves = {{1, 1, 0, 1}, {5, 5, 0, 5}, {6, 6, 1, 5}, {10, 10, 5, 5}, {11, 10, 5, 5}, {60, 10, 5, 5}};
        for (int[] c : moves) {
            CHECK.due("moves " + c[0], x.moves(c[0]), c[1]);
            CHECK.due("rises " + c[0], x.rises(c[0]), c[2]);
            CHECK.due("range " + c[0], x.range(c[0]), c[3]);
        }
        CHECK.due("lowest", x.lowest(), 5);
        CHECK.due("settled", x.settled(), 10);
        CHECK.due("turn", x.turn(), 6);
        CHECK.due("faith", x.faith(0), 10);
        x.day();
        x.day();
        CHECK.due("from day 2: lowest", x.lowest(), 3);
        CHECK.due("from day 2: settled", x.settled(), 8);
        CHECK.due("from day 2: turn", x.turn(), 4);
        CHECK.due("from day 2: range", x.range(60), 5);
        CHECK.due("from day 2: range of 3", x.range(3), 3);
        CHECK.due("from day 2: faith", x.faith(0), 12);
    }

    private static void settling() {
        CHECK.due("it does at once", Check.in(ANN).settled(), 0);
        CHECK.due("a day that changes nobody is enough", Check.in(ANN + "fares 2 < date ;").settled(), 0);
        CHECK.due("never", Check.in(ANN + "fares 1 - 2 * gone ;").settled(), -1);
        CHECK.due("behind 60", Check.in(ANN + "fares (date < 60) * (1 - 2 * gone) ;").settled(), 60);
        CHECK.due("not by 60", Check.in(ANN + "fares (date < 61) * (1 - 2 * gone) ;").settled(), -1);
        HalfMast x = Check.in("person ann plain lacks 3 ; person bob plain lacks 9 ; weighs 20 ;");
        CHECK.due("of all, not by the flag", x.settled(), 9);
        CHECK.due("with nobody", new HalfMast().settled(), 0);
    }

    private static void edgesOfSixty() {
        HalfMast x = Check.in("person ann plain lacks 0 ; weighs 1 ; mast 99 ; fares 1 ;");
        CHECK.due("lowest behind 60", x.lowest(), 60);
        CHECK.due("sill behind 60", x.sill(39), 60);
        CHECK.due("sill not by 60", x.sill(38), -1);
        CHECK.due("moves in 60", x.moves(60), 60);
        CHECK.due("range of 60", x.range(60), 60);
        CHECK.due("later 60", x.later(60), 39);
        CHECK.due("lacks 60 behind 60 days", x.settled(), 60);
        CHECK.due("no turn", x.turn(), -1);
        x = Check.in(ANN + "fares date = 59 ;");
        CHECK.due("the sixtieth day: sill", x.sill(39), 60);
        CHECK.due("the sixtieth day: lowest", x.lowest(), 60);
        CHECK.due("the sixtieth day: moves", x.moves(60), 1);
        CHECK.due("the sixtieth day: range", x.range(60), 1);
        x = Check.in(ANN + "fares date = 60 ;");
        CHECK.due("the 61st day: sill", x.sill(39), -1);
        CHECK.due("the 61st day: lowest", x.lowest(), 0);
        CHECK.due("the 61st day: moves", x.moves(60), 0);
        CHECK.due("the 61st day: range", x.range(60), 0);
        CHECK.due("the ground", Check.in("person a plain lacks 0 ; weighs 1 ; mast 5 ; fares 1 ;").sill(0), 5);
        CHECK.due("the lowest at once", Check.in(ANN).lowest(), 0);
        CHECK.due("at the mast", Check.in(ANN).sill(40), 0);
    }

    private static void turning() {
        CHECK.due("behind days of rest", Check.in(ANN + "fares (date = 0) - (date = 3) ;").turn(), 4);
        CHECK.due("the sixtieth", Check.in("person ann plain lacks 0 ; weighs 1 ; mast 99 ; fares (date < 59) * 2 - 1 ;").turn(), 60);
        CHECK.due("behind it", Check.in("person ann plain lacks 0 ; weighs 1 ; mast 99 ; fares (date < 60) * 2 - 1 ;").turn(), -1);
        HalfMast x = Check.in("person ann plain lacks 9 ; weighs 1 ; fares 0 - 1 ;");
        x.lose(0, 5);
        CHECK.due("what was ahead does not count", x.turn(), -1);
        CHECK.due("up, then down", Check.in("person ann plain lacks 9 ; weighs 1 ; fares (date = 4) - (date < 2) ;").turn(), 5);
    }

    private static void keepingFaith() {
        HalfMast x = Check.in("person ann plain lacks 0 ; person bob plain lacks 12 ; person cid plain lacks 60 ; "
                + "feels ann bob ; fares felt - 1 ;");
        // Ann stays while bob lacks something: and behind that, as nothing is less than nothing.
        CHECK.due("always", x.faith(0), 20);
        CHECK.due("12 days less", x.faith(1), 8);
        CHECK.due("never", x.faith(2), 0);
        CHECK.due("day by day, not as now", Check.in(ANN + "fares (date = 0) - (date = 1) ;").faith(0), 18);
        CHECK.due("the 21st counts no more", Check.in(ANN + "fares date = 20 ;").faith(0), 20);
        CHECK.due("the 20th counts", Check.in(ANN + "fares date = 19 ;").faith(0), 19);
    }

    private static void blaming() {
        HalfMast x = Check.in("person ann plain lacks 20 ; person bob lover lacks 12 ; person cid widow lacks 11 ; "
                + "person dot child lacks 40 ; weighs 1 ; mast 99 ; feels ann dot ; feels bob dot ; feels cid dot ; fares felt * 2 ;");
        // They weigh 20, 22, 22, 20 now: bob is the first of two.
        CHECK.due("now", x.blame(0), 1);
        // Spared, dot drives nobody: all others are 6 heavier, by 2 by 2 by 4, each day with her.
        CHECK.due("behind 3 days", x.blame(3), 3);
        CHECK.due("behind 20 days", x.blame(20), 3);
        CHECK.due("others", x.blame(21), -1);
        CHECK.due("others", x.blame(-1), -1);
        CHECK.due("nobody", new HalfMast().blame(3), -1);
        CHECK.due("all alike, all nothing", Check.in("person a plain lacks 0;person b plain lacks 0;").blame(5), 0);
        CHECK.due("at the ground all the same", Check.in("person a widow lacks 60;person b widow lacks 60;mast 1;weighs 1;fares 0;").blame(0), 0);
    }

    private static void others() {
        HalfMast x = Check.in(ANN);
        for (int days : new int[] {-1, 61, Integer.MAX_VALUE, Integer.MIN_VALUE}) {
            CHECK.due("later others", x.later(days), -1);
        }
        for (int days : new int[] {-1, 0, 61, Integer.MAX_VALUE, Integer.MIN_VALUE}) {
            CHECK.due("moves others", x.moves(days), -1);
            CHECK.due("rises others", x.rises(days), -1);
            CHECK.due("range others", x.range(days), -1);
        }
        for (int height : new int[] {-1, 100, Integer.MAX_VALUE, Integer.MIN_VALUE}) {
            CHECK.due("sill others", x.sill(height), -1);
        }
        for (int person : new int[] {-1, 1, 6, Integer.MAX_VALUE, Integer.MIN_VALUE}) {
            CHECK.due("faith others", x.faith(person), -1);
        }
    }

    private static void nothingIsDone() {
        HalfMast x = Check.in(ANN + "fares 2 ;");
        x.later(60);
        x.sill(0);
        x.moves(60);
        x.settled();
        x.lowest();
        x.rises(60);
        x.turn();
        x.range(60);
        x.faith(0);
        x.blame(20);
        CHECK.due("day", x.count(4), 0);
        CHECK.due("lacks", x.count(5), 0);
        CHECK.due("undo", x.count(11), 0);
    }
}
