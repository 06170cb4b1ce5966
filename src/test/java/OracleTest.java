import java.nio.charset.StandardCharsets;
import java.util.ArrayList;
import java.util.List;
import java.util.Random;

/** Runs of chance, each call asked of HalfMast and of the Oracle; an argument says how many runs. */
public final class OracleTest {
    private static final String[] NAMES = {"ann", "bob", "gone", "high", "felt", "date", "x", "abcdefgh", "town", "z"};
    private static final String[] PIECES = {"person", "lacks", "feels", "mast", "weighs", "rounds", "fares", "cut",
        "up", "near", "lose", "get", "spare", "feel", "day", "plain", "child", "not", "and", "or", "gone", "felt",
        "(", ")", "<", "=", "+", "-", "*", ";", "0", "1", "9999", "12345", "abcdefghi", "?", "A", "ann", "x"};

    private final Check check;
    private final Random random;
    private final HalfMast x = new HalfMast();
    private final Oracle o = new Oracle();
    private final List<String> names = new ArrayList<>();
    private final String run;
    private int law;

    private OracleTest(Check check, int seed) {
        this.check = check;
        this.random = new Random(seed);
        this.run = "run " + seed;
    }

    public static void main(String[] args) {
        int runs = args.length > 0 ? Integer.parseInt(args[0]) : 250;
        Check check = new Check("OracleTest");
        for (int seed = 0; seed < runs; seed++) {
            new OracleTest(check, seed).go();
        }
        check.finish();
    }

    private void go() {
        int calls = 200;
        for (int i = 0; i < calls; i++) {
            if (i == 0 || below(60) == 0) {
                read(townText(), true);
            } else if (below(30) == 0) {
                read(yearText(), false);
            } else {
                call(below(46));
            }
        }
    }

    private int below(int n) {
        return random.nextInt(n);
    }

    /** Of the range mostly, a little outside now and then. */
    private int about(int least, int most) {
        int where = below(30);
        return where == 0 ? least - 1 : where == 1 ? most + 1 : where == 2 ? random.nextInt()
                : least + below(most - least + 1);
    }

    private int who() {
        return about(0, Math.max(0, o.n() - 1));
    }

    private void due(String call, int got, int want) {
        check.due(run + ": " + call, got, want);
    }

    private void due(String call, boolean got, boolean want) {
        check.due(run + ": " + call, got, want);
    }

    private void read(String text, boolean town) {
        byte[] bytes = text.getBytes(StandardCharsets.ISO_8859_1);
        for (int i = 0; i < bytes.length; i += 24) {
            long a = Check.packed(bytes, i);
            long b = Check.packed(bytes, i + 8);
            long c = Check.packed(bytes, i + 16);
            due("feed", x.feed(a, b, c), o.feed(a, b, c));
        }
        due("count(12)", x.count(12), o.count(12));
        if (town) {
            due("town " + text, x.town(), o.town());
        } else {
            due("year " + text, x.year(), o.year());
        }
        for (int i = 0; i < 13; i++) {
            due("count " + i, x.count(i), o.count(i));
        }
        for (int i = 0; i < 24; i++) {
            due("person " + i / 4 + " " + i % 4, x.person(i / 4, i % 4), o.person(i / 4, i % 4));
        }
    }

    // ---- texts ----

    private String gap() {
        return below(8) == 0 ? "\n" : " ";
    }

    private String townText() {
        names.clear();
        List<String> lines = new ArrayList<>();
        int persons = below(12) == 0 ? below(8) : 1 + below(6);
        int from = below(NAMES.length);
        for (int i = 0; i < persons; i++) {
            String name = NAMES[(from + i) % NAMES.length];
            names.add(name);
            int lacks = below(4) == 0 ? below(61) : below(20);
            lines.add("person " + name + " " + Oracle.KINDS.get(below(4)) + " lacks " + lacks);
        }
        int dense = 1 + below(5);
        for (int a = 0; a < persons; a++) {
            for (int b = 0; b < persons; b++) {
                if (a != b && below(6) < dense - 1) {
                    lines.add("feels " + names.get(a) + " " + names.get(b));
                }
            }
        }
        for (String once : new String[] {"mast " + (1 + below(99)), "weighs " + (1 + below(20)),
            "rounds " + Oracle.HOWS.get(below(3)), "fares " + law()}) {
            if (below(3) > 0) {
                lines.add(below(2) == 0 ? lines.size() : 0, once);
            }
        }
        return mutated(join(lines));
    }

    private String join(List<String> lines) {
        StringBuilder text = new StringBuilder();
        for (String line : lines) {
            text.append(line.replace(" ", gap())).append(below(2) == 0 ? " ;" : ";").append(gap());
        }
        return text.toString();
    }

    private String law() {
        law = 3 + below(25);
        String[] known = {"felt - 1", "felt * 2 - 1", "(high < 20) - (20 < high)", "gone - date", "1 - felt",
            "date * 7 - gone * felt", "not felt", "(gone < 30) * 9 - 4"};
        return below(3) == 0 ? known[below(known.length)] : whole(0);
    }

    private String whole(int depth) {
        String text = test(depth);
        while (below(4) == 0 && law > 0) {
            text += (below(2) == 0 ? " and " : " or ") + test(depth);
        }
        return text;
    }

    private String test(int depth) {
        String text = sum(depth);
        return below(4) == 0 ? text + (below(2) == 0 ? " < " : "=") + sum(depth) : text;
    }

    private String sum(int depth) {
        String text = product(depth);
        while (below(3) == 0 && law > 0) {
            text += (below(2) == 0 ? " + " : "-") + product(depth);
        }
        return text;
    }

    private String product(int depth) {
        String text = part(depth);
        while (below(4) == 0 && law > 0) {
            text += " * " + part(depth);
        }
        return text;
    }

    private String part(int depth) {
        law--;
        int most = below(40) == 0 ? 6 : 4;
        int sort = below(depth < most && law > 0 ? 8 : 5);
        switch (sort) {
            case 0:
                return "" + (below(3) == 0 ? below(10000) : below(12));
            case 5:
                return "not " + part(depth + 1);
            case 6:
            case 7:
                return "(" + whole(depth + 1) + ")";
            default:
                return Oracle.FACTS.get(sort - 1);
        }
    }

    private String yearText() {
        List<String> lines = new ArrayList<>();
        int most = below(10) == 0 ? 43 : 1 + below(20);
        for (int i = 0; i < most; i++) {
            int sort = names.size() < 2 ? 4 : below(5);
            String name = names.isEmpty() ? "ann" : names.get(below(names.size()));
            String other = names.isEmpty() ? "ann" : names.get(below(names.size()));
            if (sort == 3 && name.equals(other)) {
                sort = 4;
            }
            lines.add(sort == 0 ? "lose " + name + " " + (1 + below(20))
                    : sort == 1 ? "get " + name + " " + (1 + below(20))
                    : sort == 2 ? "spare " + name : sort == 3 ? "feel " + name + " " + other : "day");
        }
        return mutated(join(lines));
    }

    /** Now and then a piece or a sign is put in, taken out or put in another's place. */
    private String mutated(String text) {
        if (below(3) > 0) {
            return text;
        }
        String[] words = text.split(" ");
        int at = below(words.length);
        int sort = below(5);
        if (sort == 0) {
            int cut = below(text.length() + 1);
            return text.substring(0, cut);
        }
        if (sort == 1) {
            int put = below(text.length() + 1);
            return text.substring(0, put) + (char) below(256) + text.substring(put);
        }
        String piece = PIECES[below(PIECES.length)];
        words[at] = sort == 2 ? piece : sort == 3 ? "" : words[at] + " " + piece;
        return String.join(" ", words);
    }

    // ---- calls ----

    private void call(int which) {
        if (which < 12) {
            callByHand(which);
        } else if (which < 23) {
            callDays(which);
        } else if (which < 35) {
            callGuess(which);
        } else {
            callRest(which);
        }
    }

    private void callByHand(int which) {
        int p = who();
        int q = who();
        int much = about(1, 20);
        switch (which) {
            case 0 -> due("high", x.high(), o.high());
            case 1 -> {
                int what = about(0, 3);
                due("person " + p + " " + what, x.person(p, what), o.person(p, what));
            }
            case 2, 3 -> due("lose " + p + " " + much, x.lose(p, much), o.lose(p, much));
            case 4 -> due("get " + p + " " + much, x.get(p, much), o.get(p, much));
            case 5 -> due("spare " + p, x.spare(p), o.spare(p));
            case 6, 7 -> due("feel " + p + " " + q, x.feel(p, q), o.feel(p, q));
            case 8 -> due("day", x.day(), o.day());
            case 9 -> {
                for (int i = below(18); i >= 0; i--) {
                    due("undo", x.undo(), o.undo());
                }
            }
            default -> {
                int what = about(0, 2);
                due("judged " + what, x.judged(what), o.judged(what));
            }
        }
    }

    private void callDays(int which) {
        int days = about(0, 60);
        int height = below(3) == 0 ? about(0, 99) : o.high() - 3 + below(7);
        int p = who();
        switch (which) {
            case 12 -> due("later " + days, x.later(days), o.later(days));
            case 13 -> due("sill " + height, x.sill(height), o.sill(height));
            case 14 -> due("moves " + days, x.moves(days), o.moves(days));
            case 15 -> due("settled", x.settled(), o.settled());
            case 16 -> due("lowest", x.lowest(), o.lowest());
            case 17 -> due("rises " + days, x.rises(days), o.rises(days));
            case 18 -> due("turn", x.turn(), o.turn());
            case 19 -> due("range " + days, x.range(days), o.range(days));
            case 20 -> due("faith " + p, x.faith(p), o.faith(p));
            default -> {
                int few = about(0, 20);
                due("blame " + few, x.blame(few), o.blame(few));
            }
        }
    }

    private void callGuess(int which) {
        int height = below(4) == 0 ? about(0, 99) : o.high() - 3 + below(7);
        int p = who();
        int what = about(0, 3);
        int days = about(0, 20);
        switch (which) {
            case 23 -> due("spared " + height, x.spared(height), o.spared(height));
            case 24 -> {
                due("least " + height, x.least(height, 0), o.least(height, 0));
                due("least " + height + " who", x.least(height, 1), o.least(height, 1));
                due("least " + what, x.least(height, what), o.least(height, what));
            }
            case 25 -> due("cost " + p, x.cost(p), o.cost(p));
            case 26 -> due("heavy", x.heavy(), o.heavy());
            case 27 -> due("pair", x.pair(), o.pair());
            case 28 -> due("even", x.even(), o.even());
            case 29 -> seeWhatMayBe();
            case 30 -> due("ways " + what, x.ways(what), o.ways(what));
            case 31 -> due("look", x.look(), o.look());
            case 32 -> {
                int[] h = o.heights(o.now, 20, 1 + below(20), below(3));
                int stands = below(12) == 0 || days < 0 || days > 20 ? about(0, 99) : h[days];
                due("measure " + days + " " + stands, x.measure(days, stands), o.measure(days, stands));
            }
            default -> due("rules " + what, x.rules(what), o.rules(what));
        }
    }

    private void seeWhatMayBe() {
        int days = about(0, 20);
        int height = about(0, 99);
        if (o.n() > 0 && days >= 0 && days <= 20 && below(12) > 0) {
            Oracle.World w = o.now.copy();
            Oracle.lose(w, below(o.n()), 1 + below(20));
            height = o.heights(w, days)[days];
        }
        due("see " + days + " " + height, x.see(days, height), o.see(days, height));
    }

    private void callRest(int which) {
        int p = who();
        int q = who();
        int height = below(4) == 0 ? about(1, 99) : o.high() - 3 + below(7);
        switch (which) {
            case 35 -> due("reach " + p, x.reach(p), o.reach(p));
            case 36 -> due("through " + p + " " + q, x.through(p, q), o.through(p, q));
            case 37 -> due("groups", x.groups(), o.groups());
            case 38 -> {
                due("deaf", x.deaf(), o.deaf());
                due("hearts " + p, x.hearts(p), o.hearts(p));
            }
            case 39 -> due("alike", x.alike(), o.alike());
            case 40 -> {
                due("worse", x.worse(), o.worse());
                due("mean", x.mean(), o.mean());
            }
            case 41 -> {
                int days = about(1, 6);
                int odds = about(0, 10);
                due("chance " + p + " " + height + " " + days + " " + odds,
                        x.chance(p, height, days, odds), o.chance(p, height, days, odds));
            }
            case 42 -> {
                int both = about(0, 9);
                int loses = below(2) == 0 ? about(0, 9) : 0;
                int gets = about(0, 9);
                int what = about(-1, 3);
                due("rests " + both + " " + loses + " " + gets + " " + what,
                        Check.rests(x, both, loses, gets, what), o.rests(both, loses, gets, what));
            }
            case 43 -> {
                int seed = about(0, 9999);
                int days = about(1, 99);
                int what = about(0, 2);
                due("years " + seed + " " + days + " " + what, x.years(seed, days, what), o.years(seed, days, what));
            }
            case 44 -> {
                int mark = about(0, 3);
                boolean back = below(2) == 0;
                due("mark " + mark + " " + back, x.mark(mark, back), o.mark(mark, back));
            }
            default -> {
                int what = about(0, 12);
                due("count " + what, x.count(what), o.count(what));
            }
        }
    }
}
