/** Promises 46 and 47, mark and count: boundary cases. */
final class EdgesOfMarks {
    private static final int NONE = HalfMast.NONE;
    private static final int[] NO_MARK = {-1, 4, 5, 32, Edges.LEAST_INT, Edges.MOST_INT};

    private final Edges edges;

    EdgesOfMarks(Edges edges) {
        this.edges = edges;
    }

    void all() {
        edges.of(46, "MARKS 0 to 3 hold all that UNDO brings back, what is SEEN, MEASURED", this::whatTheyHold);
        edges.of(46, "(nothing can be undone when one is gone back to)", this::nothingCanBeUndone);
        edges.of(46, "A MARK is laid (back: gone back to): true", this::layingAndGoingBack);
        edges.of(46, "false: none such, nothing is on it (back).", this::noneSuch);
        edges.of(46, "nothing can be undone, no MARK is there", this::aTownTakesThem);
        edges.of(47, "What 0: PERSONS, 1: the mast, 2: what weighs an inch, 3: how it is rounded (0 cut, 1 up, 2 near)", this::countsOfTown);
        edges.of(47, "4: the day, 5: what all lack, 6: what all WEIGH, 7: who lacks something, as bits", this::countsOfNow);
        edges.of(47, "8: lines of the YEAR, 9: SEEN, 10: MEASURED, 11: what can be undone, 12: signs on the TAPE.", this::countsOfNotes);
        edges.of(47, "NONE for another what.", this::anotherWhat);
    }

    private void whatTheyHold() {
        HalfMast x = edges.town(Edges.persons("plain", 10, 10) + "feels a b;weighs 1;mast 99;fares 1;");
        x.lose(0, 5);
        x.day();
        x.feel(1, 0);
        x.see(0, 60);
        x.measure(0, 72);
        for (int mark = 0; mark < 4; mark++) {
            edges.due("laid", x.mark(mark, false), true);
        }
        x.spare(0);
        x.feel(0, 1);
        Edges.times(5, x::day);
        x.see(20, 0);
        x.measure(20, 0);
        edges.year(x, "day;day;");
        Check.feed(x, "mast");
        for (int mark = 0; mark < 4; mark++) {
            x.lose(1, 20);
            edges.due("gone back", x.mark(mark, true), true);
            edges.dueCounts("back to " + mark, x, 2, 99, 1, 0, 1, 27, 27, 3, 2, 1, 1, 0, 4);
            edges.due("a lacks", x.person(0, 1), 16);
            edges.due("b lacks", x.person(1, 1), 11);
            edges.due("a feels", x.person(0, 3), 2);
            edges.due("b feels", x.person(1, 3), 1);
            edges.due("high", x.high(), 72);
            edges.due("SEEN then: 12 weighs more", x.ways(0), 2);
            edges.due("MEASURED then", x.rules(0), 3);
        }
        notesOfEach();
        HalfMast y = Busy.FULL.made();
        edges.due("eight SEEN, eight MEASURED are held", y.mark(0, true), true);
        edges.due("SEEN", y.count(9), 8);
        edges.due("MEASURED", y.count(10), 8);
    }

    /** Mark i has i * 2 of each, told otherwise than those of the others. */
    private void notesOfEach() {
        HalfMast x = edges.one(99, 9, "1");
        x.mark(0, false);
        for (int mark = 1; mark < 4; mark++) {
            x.mark(0, true);
            for (int i = 0; i < 2 * mark; i++) {
                x.see(3 * mark + i, 90 - 4 * mark - 3 * mark - i);
                x.measure(3 * mark + i, mark == 2 ? 0 : 90 - 3 * mark - i);
            }
            x.mark(mark, false);
        }
        for (int mark = 3; mark >= 0; mark--) {
            x.mark(mark, true);
            edges.due("SEEN on " + mark, x.count(9), 2 * mark);
            edges.due("MEASURED on " + mark, x.count(10), 2 * mark);
            edges.due("the least amount on " + mark, x.ways(2), mark == 0 ? 1 : 4 * mark);
            edges.due("the greatest amount on " + mark, x.ways(3), mark == 0 ? 20 : 4 * mark);
            edges.due("the rules on " + mark, x.rules(0), mark == 0 ? 60 : mark == 2 ? 0 : 3);
        }
    }

    private void nothingCanBeUndone() {
        for (int deeds : new int[] {0, 1, 16, 20}) {
            HalfMast x = edges.one(99, 0, "1");
            x.mark(3, false);
            Edges.times(deeds, x::day);
            edges.due("laying takes nothing of what can be", x.mark(2, false), true);
            edges.due("so many", x.count(11), Math.min(deeds, 16));
            x.mark(3, true);
            edges.due("none can be", x.count(11), 0);
            edges.due("undo", x.undo(), false);
            x.mark(2, true);
            edges.due("none can be of those that it was laid behind", x.undo(), false);
            edges.due("the day", x.count(4), deeds);
            x.day();
            edges.due("one can be again", x.undo(), true);
            edges.due("no more than one", x.undo(), false);
        }
    }

    private void layingAndGoingBack() {
        HalfMast x = edges.one(99, 0, "1");
        edges.due("laid", x.mark(0, false), true);
        x.day();
        edges.due("laid again, over it", x.mark(0, false), true);
        x.day();
        edges.due("back", x.mark(0, true), true);
        edges.due("to the last one laid", x.count(4), 1);
        edges.due("back again", x.mark(0, true), true);
        edges.due("it is still there", x.count(4), 1);
        x.day();
        x.mark(1, false);
        x.day();
        x.mark(0, true);
        edges.due("each for itself, 0", x.count(4), 1);
        x.mark(1, true);
        edges.due("each for itself, 1", x.count(4), 2);
        x.see(0, 9);
        x.mark(1, true);
        edges.due("what comes later is not on it", x.count(9), 0);
        HalfMast nobody = new HalfMast();
        edges.due("with nobody", nobody.mark(3, false), true);
        nobody.day();
        edges.due("back with nobody", nobody.mark(3, true), true);
        edges.due("day 0", nobody.count(4), 0);
        for (int mark = 0; mark < 4; mark++) {
            int laid = mark;
            for (Busy busy : Busy.values()) {
                edges.dueUnchangedBut(busy, "laying " + mark, y -> y.mark(laid, false) ? 1 : 0, Shown.MARKS + mark);
            }
        }
    }

    private void noneSuch() {
        for (int wrong : NO_MARK) {
            edges.refused("mark(" + wrong + ", false)", x -> x.mark(wrong, false) ? 1 : 0, 0);
            edges.refused("mark(" + wrong + ", true)", x -> x.mark(wrong, true) ? 1 : 0, 0);
        }
        edges.refusedIn(Busy.SOME, "mark(1, true), nothing is on it", x -> x.mark(1, true) ? 1 : 0, 0);
        edges.refusedIn(Busy.SOME, "mark(3, true), nothing is on it", x -> x.mark(3, true) ? 1 : 0, 0);
        for (int mark = 0; mark < 4; mark++) {
            int none = mark;
            edges.refusedIn(Busy.NEW, "mark(" + mark + ", true), nothing is on it", x -> x.mark(none, true) ? 1 : 0, 0);
        }
    }

    private void aTownTakesThem() {
        HalfMast x = Busy.FULL.made();
        edges.due("a FAULT", x.year(), Check.fault(1, 0));
        edges.due("of a YEAR leaves them", x.mark(3, true), true);
        edges.due("a FAULT of a TOWN", Check.town(x, "mast 5"), Check.fault(1, 6));
        edges.due("leaves them, too", x.mark(0, true), true);
        edges.due("a YEAR", Check.year(x, "day;"), 0);
        edges.due("leaves them, too", x.mark(1, true), true);
        edges.due("a TOWN", Check.town(x, "mast 5;"), 0);
        for (int mark = 0; mark < 4; mark++) {
            edges.due("takes them", x.mark(mark, true), false);
        }
        edges.due("laid anew", x.mark(2, false), true);
        edges.due("the others are not", x.mark(1, true), false);
        edges.due("it is", x.mark(2, true), true);
    }

    private void countsOfTown() {
        edges.dueCounts("at first", new HalfMast(), 0, 40, 6, 0);
        edges.dueCounts("the least", edges.town("mast 1;weighs 1;rounds cut;"), 0, 1, 1, 0);
        edges.dueCounts("one", edges.town("person a plain lacks 0;mast 2;weighs 2;rounds up;"), 1, 2, 2, 1);
        edges.dueCounts("the most", edges.town(Edges.persons("plain", 0, 0, 0, 0, 0, 0) + "mast 99;weighs 20;rounds near;"), 6, 99, 20, 2);
    }

    private void countsOfNow() {
        HalfMast x = edges.town(Edges.persons("widow", 60, 60, 60, 60, 60, 60) + "fares 0-9;");
        edges.dueCounts("the most", x, 6, 40, 6, 0, 0, 360, 720, 63);
        x.spare(0);
        edges.dueCounts("the first lacks nothing", x, 6, 40, 6, 0, 0, 300, 600, 62);
        x.spare(5);
        edges.dueCounts("nor does the last", x, 6, 40, 6, 0, 0, 240, 480, 30);
        x.lose(5, 1);
        edges.dueCounts("1 is something", x, 6, 40, 6, 0, 0, 241, 482, 62);
        Edges.times(7, x::day);
        edges.dueCounts("nobody lacks anything", x, 6, 40, 6, 0, 7, 0, 0, 0);
        x = edges.town(Edges.persons("child", 1, 0));
        edges.dueCounts("who weighs nothing may lack something", x, 2, 40, 6, 0, 0, 1, 0, 1);
    }

    private void countsOfNotes() {
        HalfMast full = Busy.FULL.made();
        int[] most = {40, 8, 8, 16, 1000};
        int[] least = {0, 0, 0, 0, 0};
        for (int i = 0; i < 5; i++) {
            edges.due("the most, count(" + (8 + i) + ")", full.count(8 + i), most[i]);
            edges.due("the least, count(" + (8 + i) + ")", new HalfMast().count(8 + i), least[i]);
        }
        HalfMast x = edges.one(99, 0, "1");
        edges.year(x, "day;");
        x.see(0, 0);
        x.measure(0, 0);
        x.day();
        x.feed(0x20, 0, 0);
        for (int what = 8; what <= 12; what++) {
            edges.due("one, count(" + what + ")", x.count(what), 1);
        }
    }

    private void anotherWhat() {
        for (int wrong : new int[] {-1, 13, 14, Edges.LEAST_INT, Edges.MOST_INT}) {
            edges.refused("count(" + wrong + ")", x -> x.count(wrong), NONE);
        }
        for (int what = 0; what <= 12; what++) {
            int asked = what;
            edges.changesNothing("count(" + what + ")", x -> x.count(asked));
        }
    }
}
