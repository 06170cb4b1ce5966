/** Promises 46 and 47: mark, count. */
public final class MarkTest {
    private static final Check CHECK = new Check("MarkTest");
    private static final String TWO = "person ann plain lacks 12 ; person bob widow lacks 3 ; feels ann bob ; "
            + "mast 50 ; weighs 7 ; rounds near ; fares 1 ; ";

    public static void main(String[] args) {
        laying();
        goingBack();
        whatIsLeftAlone();
        counting();
        CHECK.finish();
    }

    private static void laying() {
        HalfMast x = Check.in(TWO);
        for (int wrong : new int[] {-1, 4, Integer.MAX_VALUE, Integer.MIN_VALUE}) {
            CHECK.due("none such", x.mark(wrong, false), false);
            CHECK.due("none such", x.mark(wrong, true), false);
        }
        for (int i = 0; i < 4; i++) {
            CHECK.due("nothing is on it", x.mark(i, true), false);
            CHECK.due("laid", x.mark(i, false), true);
            CHECK.due("there it is", x.mark(i, true), true);
            CHECK.due("and again", x.mark(i, true), true);
        }
    }

    private static void goingBack() {
        HalfMast x = Check.in(TWO);
        x.lose(0, 5);
        x.see(3, 4);
        x.measure(2, 9);
        x.measure(1, 9);
        x.mark(1, false);
        CHECK.due("laying leaves what can be undone", x.count(11), 1);
        x.day();
        x.day();
        x.spare(1);
        x.feel(0, 1);
        x.feel(1, 0);
        x.see(1, 1);
        x.measure(3, 3);
        x.mark(3, false);
        CHECK.due("gone back", x.mark(1, true), true);
        int[] due = {2, 50, 7, 2, 0, 20, 23, 3, 0, 1, 2, 0, 0};
        for (int i = 0; i < due.length; i++) {
            CHECK.due("back count(" + i + ")", x.count(i), due[i]);
        }
        CHECK.due("nothing can be undone", x.undo(), false);
        CHECK.due("ann", x.person(0, 1), 17);
        CHECK.due("bob", x.person(1, 1), 3);
        CHECK.due("ann feels bob", x.person(0, 3), 2);
        CHECK.due("bob feels nobody", x.person(1, 3), 0);
        CHECK.due("high", x.high(), 47);
        x.lose(0, 20);
        CHECK.due("to the other one", x.mark(3, true), true);
        CHECK.due("day 2", x.count(4), 2);
        CHECK.due("ann", x.person(0, 1), 19);
        CHECK.due("bob feels ann", x.person(1, 3), 1);
        CHECK.due("seen two", x.count(9), 2);
        CHECK.due("measured three", x.count(10), 3);
        CHECK.due("the first is as it was", x.mark(1, true), true);
        CHECK.due("ann", x.person(0, 1), 17);
        x.spare(0);
        x.mark(1, false);
        x.lose(0, 3);
        x.mark(1, true);
        CHECK.due("laid anew", x.person(0, 1), 0);
        x.see(0, 50);
        CHECK.due("what comes later is not on it", x.mark(1, true), true);
        CHECK.due("seen one", x.count(9), 1);
        eightNotes();
    }

    private static void eightNotes() {
        HalfMast x = Check.in("person ann plain lacks 9 ; weighs 1 ; fares 1 ;");
        x.mark(1, false);
        for (int i = 0; i < 8; i++) {
            x.see(i, 40 - 9 - 4 - i);
            x.measure(i, 40 - 9 - i);
        }
        x.mark(0, false);
        x.mark(1, true);
        CHECK.due("nothing was seen then", x.ways(0), 20);
        CHECK.due("nothing was measured then", x.rules(0), 60);
        for (int i = 0; i < 8; i++) {
            x.see(7 - i, 40);
            x.measure(7 - i, 0);
        }
        CHECK.due("no way", x.ways(0), 0);
        CHECK.due("no rule", x.rules(0), 0);
        x.mark(0, true);
        CHECK.due("the way that was seen", x.ways(0), 1);
        CHECK.due("by 4", x.ways(2), 4);
        CHECK.due("the rules that were measured", x.rules(0), 3);
    }

    private static void whatIsLeftAlone() {
        HalfMast x = Check.in(TWO);
        x.mark(0, false);
        Check.year(x, "day ; day ;");
        Check.feed(x, "mast");
        x.mark(0, true);
        CHECK.due("the year stays", x.count(8), 2);
        CHECK.due("the tape stays", x.count(12), 4);
        x.lose(0, 1);
        CHECK.due("it fails", x.mark(2, true), false);
        CHECK.due("and leaves what can be undone", x.count(11), 1);
        x.see(1, 1);
        x.undo();
        CHECK.due("undo leaves what is seen", x.count(9), 1);
        CHECK.due("a fault leaves the marks", x.town(), Check.fault(1, 4));
        CHECK.due("there it is", x.mark(0, true), true);
        Check.town(x, "mast 5 ;");
        CHECK.due("a town takes them away", x.mark(0, true), false);
    }

    private static void counting() {
        HalfMast x = Check.in(TWO);
        Check.year(x, "day ; lose ann 5 ; day ;");
        x.spare(0);
        x.day();
        x.day();
        x.see(0, 0);
        x.measure(0, 0);
        x.measure(0, 0);
        Check.feed(x, "mast 9");
        int[] due = {2, 50, 7, 2, 2, 7, 12, 3, 3, 1, 2, 3, 6};
        for (int i = 0; i < due.length; i++) {
            CHECK.due("count(" + i + ")", x.count(i), due[i]);
        }
        x.spare(0);
        CHECK.due("bob alone lacks", x.count(7), 2);
        x.spare(1);
        CHECK.due("nobody lacks", x.count(7), 0);
        x.lose(1, 1);
        CHECK.due("bob lacks 1", x.count(7), 2);
        for (int wrong : new int[] {-1, 13, Integer.MAX_VALUE, Integer.MIN_VALUE}) {
            CHECK.due("count others", x.count(wrong), -1);
        }
    }
}
