import java.util.ArrayList;
import java.util.List;
import java.util.function.Supplier;

/** What calls show of an object. Each part is asked of an object made anew, and stays below the 512th call. */
final class Shown {
    /** The part that shows mark 0; the other marks follow. */
    static final int MARKS = 2;

    private Shown() { }

    static List<String> of(Supplier<HalfMast> made) {
        List<String> parts = new ArrayList<>();
        parts.add(answers(made.get()));
        parts.add(undone(made.get()));
        for (int mark = 0; mark < 4; mark++) {
            parts.add(goneBack(made.get(), mark));
        }
        parts.add(taken(made.get(), true));
        parts.add(taken(made.get(), false));
        parts.add(names(made.get()));
        return parts;
    }

    /** What every call answers that only asks. */
    private static String answers(HalfMast x) {
        StringBuilder s = new StringBuilder("asked:");
        for (int what = 0; what <= 12; what++) {
            add(s, x.count(what));
        }
        addState(s, x);
        addNotes(s, x);
        int high = x.high();
        add(s, x.judged(0), x.judged(1), x.judged(2), x.later(1), x.later(20), x.later(60), x.sill(high - 1), x.sill(0));
        add(s, x.moves(60), x.settled(), x.lowest(), x.rises(60), x.turn(), x.range(60), x.blame(0), x.blame(20));
        add(s, x.spared(high + 1), x.spared(x.count(1)), x.heavy(), x.pair(), x.even(), x.look());
        add(s, x.least(high, 0), x.least(high - 1, 0), x.least(high - 1, 1), x.least(high + 1, 0), x.least(high + 1, 1));
        add(s, x.groups(), x.deaf(), x.alike(), x.worse(), x.mean());
        for (int i = 0; i < 6; i++) {
            add(s, x.person(i, 0), x.person(i, 2), x.cost(i), x.reach(i), x.hearts(i), x.faith(i));
            add(s, x.through(i, i), x.through(i, (i + 1) % 6), x.through(i, (i + 4) % 6), x.chance(i, Math.max(1, high), 3, 4));
        }
        add(s, x.years(7, 9, 0), x.years(7, 9, 1), x.years(7, 9, 2), Check.rests(x, 2, 0, 3, -1));
        return s.toString();
    }

    private static String undone(HalfMast x) {
        StringBuilder s = new StringBuilder("undone:");
        for (int i = 0; i < 18; i++) {
            add(s, x.undo() ? 1 : 0, x.count(11));
            addState(s, x);
        }
        return s.toString();
    }

    private static String goneBack(HalfMast x, int mark) {
        StringBuilder s = new StringBuilder("gone back:");
        add(s, x.mark(mark, true) ? 1 : 0, x.count(11), x.undo() ? 1 : 0);
        addState(s, x);
        addNotes(s, x);
        return s.toString();
    }

    /** What is on the tape, by how it is read, and the town and the year behind that. */
    private static String taken(HalfMast x, boolean town) {
        StringBuilder s = new StringBuilder("taken:");
        add(s, x.count(12), town ? x.town() : x.year());
        for (int what = 0; what <= 12; what++) {
            add(s, x.count(what));
        }
        add(s, x.judged(0), x.judged(1), x.judged(2));
        return s.toString();
    }

    private static String names(HalfMast x) {
        StringBuilder s = new StringBuilder("names:");
        x.year();
        for (String name : Busy.NAMES) {
            add(s, Check.year(x, "spare " + name + ";"));
        }
        return s.toString();
    }

    private static void addState(StringBuilder s, HalfMast x) {
        add(s, x.high(), x.count(4));
        for (int i = 0; i < 6; i++) {
            add(s, x.person(i, 1), x.person(i, 3));
        }
    }

    private static void addNotes(StringBuilder s, HalfMast x) {
        add(s, x.count(9), x.ways(0), x.ways(1), x.ways(2), x.ways(3));
        add(s, x.count(10), x.rules(0), x.rules(1), x.rules(2));
    }

    private static void add(StringBuilder s, int... answers) {
        for (int answer : answers) {
            s.append(' ').append(answer);
        }
    }
}
