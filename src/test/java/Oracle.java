import java.util.ArrayList;
import java.util.Arrays;
import java.util.HashMap;
import java.util.HashSet;
import java.util.List;
import java.util.Map;
import java.util.Set;
import java.util.TreeMap;

/** The document told a second time, as plainly as can be and with nothing shared, for runs of chance to be held against. */
final class Oracle {
    record Token(String text, int place) { }

    record Person(String name, int kind) { }

    record Line(String deed, int person, int second) { }

    record Note(int days, int height) { }

    static final class Fault extends RuntimeException {
        private static final long serialVersionUID = 1L;
        final int number;

        Fault(int kind, Token token) {
            number = kind + 16 * token.place;
        }
    }

    static final Set<String> RESERVED = Set.of("person", "lacks", "feels", "mast", "weighs", "rounds", "fares",
            "cut", "up", "near", "lose", "get", "spare", "feel", "day", "plain", "lover", "widow", "child",
            "not", "and", "or");
    static final List<String> KINDS = List.of("plain", "lover", "widow", "child");
    static final List<String> HOWS = List.of("cut", "up", "near");
    static final List<String> FACTS = List.of("gone", "high", "felt", "date");

    /** All that can change, copied for every question. */
    static final class World {
        int[] lacks = new int[0];
        Set<Integer> feels = new HashSet<>();
        int date;

        World copy() {
            World w = new World();
            w.lacks = lacks.clone();
            w.feels = new HashSet<>(feels);
            w.date = date;
            return w;
        }

        boolean feels(int a, int b) {
            return feels.contains(10 * a + b);
        }
    }

    static final class Town {
        List<Person> persons = new ArrayList<>();
        World begin = new World();
        int mast = 40;
        int weighs = 6;
        int rounds = 0;
        List<Token> law = tokens("felt - 1 ;");

        int find(String name) {
            for (int i = 0; i < persons.size(); i++) {
                if (persons.get(i).name.equals(name)) {
                    return i;
                }
            }
            return -1;
        }
    }

    record Marked(World world, List<Note> seen, List<Note> measured) { }

    String tape = "";
    Town town = new Town();
    World now = town.begin.copy();
    List<Line> year = new ArrayList<>();
    List<World> past = new ArrayList<>();
    List<Note> seen = new ArrayList<>();
    List<Note> measured = new ArrayList<>();
    Map<Integer, Marked> marks = new HashMap<>();

    // ---- tokens ----

    /** The last one is the end: an empty text; what is none stands as "?". */
    static List<Token> tokens(String text) {
        List<Token> all = new ArrayList<>();
        int i = 0;
        while (i < text.length()) {
            String rest = text.substring(i);
            if (rest.matches("(?s)[ \n].*")) {
                i++;
                continue;
            }
            String one = rest.replaceFirst("(?s)^([a-z]+|[0-9]+|.).*$", "$1");
            boolean good = one.matches("[a-z]{1,8}|[0-9]{1,4}|[()<=+*;-]");
            all.add(new Token(good ? one : "?", i));
            i += one.length();
        }
        all.add(new Token("", text.length()));
        return all;
    }

    static boolean isName(String text) {
        return !text.isEmpty() && text.charAt(0) >= 'a' && text.charAt(0) <= 'z' && !RESERVED.contains(text);
    }

    static boolean isNumber(String text) {
        return !text.isEmpty() && text.charAt(0) >= '0' && text.charAt(0) <= '9';
    }

    /** A walk along tokens. */
    static final class Walk {
        final List<Token> tokens;
        int i;

        Walk(List<Token> tokens) {
            this.tokens = tokens;
        }

        Token token() {
            return tokens.get(i);
        }

        String text() {
            return token().text;
        }

        Fault wrong(int kind) {
            return new Fault(kind, token());
        }

        void expect(String text) {
            if (!text().equals(text)) {
                throw wrong(1);
            }
            i++;
        }

        int number(int least, int most) {
            if (!isNumber(text())) {
                throw wrong(1);
            }
            int value = Integer.parseInt(text());
            if (value < least || value > most) {
                throw wrong(4);
            }
            i++;
            return value;
        }

        int oneOf(List<String> texts) {
            int at = texts.indexOf(text());
            if (at < 0) {
                throw wrong(1);
            }
            i++;
            return at;
        }

        int person(Town town) {
            if (!isName(text())) {
                throw wrong(1);
            }
            int who = town.find(text());
            if (who < 0) {
                throw wrong(2);
            }
            return who;
        }
    }

    // ---- the law, told anew from its tokens each time ----

    /** Numbers of the facts; with null ones the law is only read. */
    static int whole(Walk w, int depth, Map<String, Integer> facts) {
        int value = test(w, depth, facts);
        while (w.text().equals("and") || w.text().equals("or")) {
            boolean and = w.text().equals("and");
            w.i++;
            int other = test(w, depth, facts);
            value = (and ? value != 0 & other != 0 : value != 0 | other != 0) ? 1 : 0;
        }
        return value;
    }

    static int test(Walk w, int depth, Map<String, Integer> facts) {
        int value = sum(w, depth, facts);
        if (w.text().equals("<")) {
            w.i++;
            return value < sum(w, depth, facts) ? 1 : 0;
        }
        if (w.text().equals("=")) {
            w.i++;
            return value == sum(w, depth, facts) ? 1 : 0;
        }
        return value;
    }

    static int sum(Walk w, int depth, Map<String, Integer> facts) {
        int value = product(w, depth, facts);
        while (true) {
            if (w.text().equals("+")) {
                w.i++;
                value += product(w, depth, facts);
            } else if (w.text().equals("-")) {
                w.i++;
                value -= product(w, depth, facts);
            } else {
                return value;
            }
        }
    }

    static int product(Walk w, int depth, Map<String, Integer> facts) {
        int value = part(w, depth, facts);
        while (w.text().equals("*")) {
            w.i++;
            value *= part(w, depth, facts);
        }
        return value;
    }

    static int part(Walk w, int depth, Map<String, Integer> facts) {
        String text = w.text();
        if (!isNumber(text) && !FACTS.contains(text) && !text.equals("not") && !text.equals("(")) {
            throw w.wrong(1);
        }
        if (depth == 5) {
            throw w.wrong(5);
        }
        w.i++;
        if (isNumber(text)) {
            return Integer.parseInt(text);
        }
        if (text.equals("not")) {
            return part(w, depth + 1, facts) == 0 ? 1 : 0;
        }
        if (text.equals("(")) {
            int value = whole(w, depth + 1, facts);
            w.expect(")");
            return value;
        }
        return facts.getOrDefault(text, 0);
    }

    // ---- reading ----

    int feed(long a, long b, long c) {
        for (long l : new long[] {a, b, c}) {
            for (int i = 7; i >= 0; i--) {
                int sign = (int) (l >> 8 * i & 0xff);
                if ((sign == 10 || sign >= 32 && sign < 127) && tape.length() < 1000) {
                    tape += (char) sign;
                }
            }
        }
        return tape.length();
    }

    int town() {
        Walk w = new Walk(tokens(tape));
        tape = "";
        Town t;
        try {
            t = readTown(w);
        } catch (Fault f) {
            return f.number;
        }
        town = t;
        now = t.begin.copy();
        year = new ArrayList<>();
        past.clear();
        seen.clear();
        measured.clear();
        marks.clear();
        return 0;
    }

    static Town readTown(Walk w) {
        Town t = new Town();
        List<Integer> lacks = new ArrayList<>();
        Set<String> once = new HashSet<>();
        while (!w.text().isEmpty()) {
            String word = w.text();
            if (Set.of("mast", "weighs", "rounds", "fares").contains(word) && !once.add(word)) {
                throw w.wrong(3);
            }
            if (word.equals("person") && t.persons.size() == 6) {
                throw w.wrong(5);
            }
            int begins = w.i++;
            switch (word) {
                case "person" -> {
                    if (!isName(w.text())) {
                        throw w.wrong(1);
                    }
                    if (t.find(w.text()) >= 0) {
                        throw w.wrong(3);
                    }
                    String name = w.text();
                    w.i++;
                    int kind = w.oneOf(KINDS);
                    w.expect("lacks");
                    lacks.add(w.number(0, 60));
                    t.persons.add(new Person(name, kind));
                }
                case "feels" -> {
                    int a = w.person(t);
                    w.i++;
                    int b = w.person(t);
                    if (a == b || !t.begin.feels.add(10 * a + b)) {
                        throw w.wrong(3);
                    }
                    w.i++;
                }
                case "mast" -> t.mast = w.number(1, 99);
                case "weighs" -> t.weighs = w.number(1, 20);
                case "rounds" -> t.rounds = w.oneOf(HOWS);
                case "fares" -> {
                    int from = w.i;
                    whole(w, 0, Map.of());
                    t.law = w.tokens.subList(from, w.tokens.size());
                }
                default -> {
                    w.i = begins;
                    throw w.wrong(1);
                }
            }
            w.expect(";");
        }
        t.begin.lacks = lacks.stream().mapToInt(Integer::intValue).toArray();
        return t;
    }

    int year() {
        Walk w = new Walk(tokens(tape));
        tape = "";
        List<Line> lines = new ArrayList<>();
        try {
            while (!w.text().isEmpty()) {
                lines.add(readLine(w, lines.size()));
            }
        } catch (Fault f) {
            return f.number;
        }
        year = lines;
        return 0;
    }

    Line readLine(Walk w, int before) {
        String deed = w.text();
        if (!Set.of("lose", "get", "spare", "feel", "day").contains(deed)) {
            throw w.wrong(1);
        }
        if (before == 40) {
            throw w.wrong(5);
        }
        w.i++;
        int who = -1;
        int second = -1;
        if (!deed.equals("day")) {
            who = w.person(town);
            w.i++;
        }
        if (deed.equals("lose") || deed.equals("get")) {
            second = w.number(1, 20);
        }
        if (deed.equals("feel")) {
            second = w.person(town);
            if (second == who) {
                throw w.wrong(3);
            }
            w.i++;
        }
        w.expect(";");
        return new Line(deed, who, second);
    }

    // ---- how things go ----

    int n() {
        return town.persons.size();
    }

    boolean no(int person) {
        return person < 0 || person >= n();
    }

    int weight(int person, int lacks) {
        return switch (town.persons.get(person).kind) {
            case 1 -> lacks == 0 ? 0 : lacks + 10;
            case 2 -> lacks + lacks;
            case 3 -> (lacks - lacks % 2) / 2;
            default -> lacks;
        };
    }

    int weights(World w) {
        int sum = 0;
        for (int i = 0; i < n(); i++) {
            sum += weight(i, w.lacks[i]);
        }
        return sum;
    }

    int stand(int sum, int inch, int how) {
        int whole = 0;
        while ((whole + 1) * inch <= sum) {
            whole++;
        }
        int over = sum - whole * inch;
        if (how == 1 && over > 0 || how == 2 && 2 * over >= inch) {
            whole++;
        }
        return whole > town.mast ? 0 : town.mast - whole;
    }

    int stand(World w) {
        return stand(weights(w), town.weighs, town.rounds);
    }

    void pass(World w, int inch, int how) {
        int high = stand(weights(w), inch, how);
        int[] next = w.lacks.clone();
        for (int i = 0; i < n(); i++) {
            int felt = 0;
            for (int j = 0; j < n(); j++) {
                felt += w.feels(i, j) && w.lacks[j] > w.lacks[i] ? 1 : 0;
            }
            Map<String, Integer> facts = Map.of("gone", w.lacks[i], "high", high, "felt", felt, "date", w.date);
            int more = whole(new Walk(town.law), 0, facts);
            more = more > 9 ? 9 : more < -9 ? -9 : more;
            next[i] = Math.min(60, Math.max(0, w.lacks[i] + more));
        }
        w.lacks = next;
        w.date++;
    }

    void pass(World w) {
        pass(w, town.weighs, town.rounds);
    }

    static void lose(World w, int person, int much) {
        w.lacks[person] = Math.min(60, w.lacks[person] + much);
    }

    static void get(World w, int person, int much) {
        w.lacks[person] = Math.max(0, w.lacks[person] - much);
    }

    static void turn(World w, int a, int b) {
        if (!w.feels.remove(10 * a + b)) {
            w.feels.add(10 * a + b);
        }
    }

    /** How high it stands behind 0, 1, .. days. */
    int[] heights(World from, int days, int inch, int how) {
        World w = from.copy();
        int[] all = new int[days + 1];
        for (int i = 0; i <= days; i++) {
            all[i] = stand(weights(w), inch, how);
            pass(w, inch, how);
        }
        return all;
    }

    int[] heights(World from, int days) {
        return heights(from, days, town.weighs, town.rounds);
    }

    int[] heights(int days) {
        return heights(now, days);
    }

    // ---- by hand ----

    int high() {
        return stand(now);
    }

    int person(int person, int what) {
        if (no(person) || what < 0 || what > 3) {
            return -2;
        }
        int bits = 0;
        for (int j = 0; j < n(); j++) {
            bits += now.feels(person, j) ? 1 << j : 0;
        }
        return new int[] {town.persons.get(person).kind, now.lacks[person],
            weight(person, now.lacks[person]), bits}[what];
    }

    void keep() {
        past.add(now.copy());
        if (past.size() > 16) {
            past.remove(0);
        }
    }

    int lose(int person, int much) {
        if (no(person) || much < 1 || much > 20) {
            return -1;
        }
        keep();
        lose(now, person, much);
        return now.lacks[person];
    }

    int get(int person, int much) {
        if (no(person) || much < 1 || much > 20) {
            return -1;
        }
        keep();
        get(now, person, much);
        return now.lacks[person];
    }

    int spare(int person) {
        if (no(person)) {
            return -1;
        }
        keep();
        int before = high();
        now.lacks[person] = 0;
        return high() - before;
    }

    boolean feel(int a, int b) {
        if (no(a) || no(b) || a == b) {
            return false;
        }
        keep();
        turn(now, a, b);
        return true;
    }

    int day() {
        keep();
        int before = high();
        pass(now);
        return high() - before;
    }

    boolean undo() {
        if (past.isEmpty()) {
            return false;
        }
        now = past.remove(past.size() - 1);
        return true;
    }

    int judged(int what) {
        World w = town.begin.copy();
        List<Integer> moving = new ArrayList<>();
        for (int i = 0; i < year.size(); i++) {
            Line line = year.get(i);
            int before = stand(w);
            switch (line.deed) {
                case "lose" -> lose(w, line.person, line.second);
                case "get" -> get(w, line.person, line.second);
                case "spare" -> w.lacks[line.person] = 0;
                case "feel" -> turn(w, line.person, line.second);
                default -> pass(w);
            }
            if (stand(w) != before) {
                moving.add(i);
            }
        }
        return what == 0 ? moving.isEmpty() ? -1 : moving.get(0)
                : what == 1 ? moving.size() : what == 2 ? stand(w) : -2;
    }

    // ---- days going by ----

    int later(int days) {
        return days < 0 || days > 60 ? -1 : heights(days)[days];
    }

    int sill(int height) {
        int[] h = heights(60);
        for (int i = 0; i <= 60 && height >= 0 && height <= 99; i++) {
            if (h[i] <= height) {
                return i;
            }
        }
        return -1;
    }

    int moves(int days) {
        if (days < 1 || days > 60) {
            return -1;
        }
        int[] h = heights(days);
        int many = 0;
        for (int i = 0; i < days; i++) {
            many += h[i] != h[i + 1] ? 1 : 0;
        }
        return many;
    }

    int rises(int days) {
        if (days < 1 || days > 60) {
            return -1;
        }
        int[] h = heights(days);
        int many = 0;
        for (int i = 0; i < days; i++) {
            many += h[i] < h[i + 1] ? 1 : 0;
        }
        return many;
    }

    int settled() {
        World w = now.copy();
        for (int i = 0; i <= 60; i++) {
            int[] before = w.lacks;
            pass(w);
            if (Arrays.equals(before, w.lacks)) {
                return i;
            }
        }
        return -1;
    }

    int lowest() {
        int[] h = heights(60);
        int least = Arrays.stream(h).min().getAsInt();
        int i = 0;
        while (h[i] != least) {
            i++;
        }
        return i;
    }

    int turn() {
        int[] h = heights(60);
        for (int day = 1; day <= 60; day++) {
            for (int back = day - 1; back >= 1 && h[day] != h[day - 1]; back--) {
                if (h[back] != h[back - 1]) {
                    if ((h[back] > h[back - 1]) != (h[day] > h[day - 1])) {
                        return day;
                    }
                    break;
                }
            }
        }
        return -1;
    }

    int range(int days) {
        if (days < 1 || days > 60) {
            return -1;
        }
        int[] h = heights(days);
        Arrays.sort(h);
        return h[days] - h[0];
    }

    int faith(int person) {
        if (no(person)) {
            return -1;
        }
        World w = now.copy();
        int many = 0;
        for (int i = 0; i < 20; i++) {
            int before = w.lacks[person];
            pass(w);
            many += w.lacks[person] == before ? 1 : 0;
        }
        return many;
    }

    int blame(int days) {
        int who = -1;
        int best = -1;
        for (int i = 0; i < n() && days >= 0 && days <= 20; i++) {
            World w = now.copy();
            w.lacks[i] = 0;
            int h = heights(w, days)[days];
            if (h > best) {
                best = h;
                who = i;
            }
        }
        return who;
    }

    // ---- just so ----

    int without(int set) {
        World w = now.copy();
        for (int i = 0; i < n(); i++) {
            w.lacks[i] = (set >> i & 1) == 1 ? 0 : w.lacks[i];
        }
        return stand(w);
    }

    int spared(int height) {
        for (int many = 0; many <= n() && height >= 1 && height <= 99; many++) {
            for (int set = 0; set < 64 && set < 1 << n(); set++) {
                if (Integer.bitCount(set) == many && without(set) >= height) {
                    return set;
                }
            }
        }
        return -1;
    }

    int ifMore(int person, int more) {
        World w = now.copy();
        w.lacks[person] += more;
        return w.lacks[person] < 0 || w.lacks[person] > 60 ? -1 : stand(w);
    }

    int least(int height, int what) {
        if (height < 0 || height > 99 || what < 0 || what > 1) {
            return -1000;
        }
        if (high() == height) {
            return what == 0 ? 0 : -1;
        }
        int bestMore = -1000;
        int bestWho = -1000;
        for (int who = 0; who < n(); who++) {
            for (int more = -60; more <= 60; more++) {
                boolean better = bestMore == -1000 || Math.abs(more) < Math.abs(bestMore)
                        || Math.abs(more) == Math.abs(bestMore) && more > bestMore;
                if (ifMore(who, more) == height && better) {
                    bestMore = more;
                    bestWho = who;
                }
            }
        }
        return what == 0 ? bestMore : bestWho;
    }

    int cost(int person) {
        for (int less = 1; less <= 60 && !no(person); less++) {
            if (ifMore(person, -less) > high()) {
                return less;
            }
        }
        return -1;
    }

    int heavy() {
        int who = -1;
        for (int i = n() - 1; i >= 0; i--) {
            if (who < 0 || weight(i, now.lacks[i]) >= weight(who, now.lacks[who])) {
                who = i;
            }
        }
        return who;
    }

    int pair() {
        int best = -1;
        int who = -1;
        for (int set = 0; set < 64; set++) {
            int a = set / 8;
            int b = set % 8;
            if (a < b && b < n() && without(1 << a | 1 << b) > best) {
                best = without(1 << a | 1 << b);
                who = set;
            }
        }
        return who;
    }

    int even() {
        int more = 0;
        while (high() > 0 && stand(weights(now) + more, town.weighs, town.rounds) >= high()) {
            more++;
        }
        return more;
    }

    // ---- guessing ----

    static boolean note(List<Note> notes, int days, int height) {
        boolean fits = days >= 0 && days <= 20 && height >= 0 && height <= 99 && notes.size() < 8;
        return fits && notes.add(new Note(days, height));
    }

    boolean see(int days, int height) {
        return note(seen, days, height);
    }

    boolean measure(int days, int height) {
        return note(measured, days, height);
    }

    /** For each way, 100 * the person + the amount, how high it stands on days 0 to 20. */
    Map<Integer, int[]> ways() {
        Map<Integer, int[]> all = new TreeMap<>();
        for (int i = 0; i < n(); i++) {
            for (int much = 1; much <= 20; much++) {
                World w = now.copy();
                lose(w, i, much);
                int[] h = heights(w, 20);
                if (seen.stream().allMatch(s -> h[s.days] == s.height)) {
                    all.put(100 * i + much, h);
                }
            }
        }
        return all;
    }

    int ways(int what) {
        Set<Integer> all = ways().keySet();
        int bits = 0;
        for (int way : all) {
            bits |= 1 << way / 100;
        }
        return what == 0 ? all.size() : what == 1 ? bits
                : what == 2 ? all.stream().mapToInt(w -> w % 100).min().orElse(-1)
                : what == 3 ? all.stream().mapToInt(w -> w % 100).max().orElse(-1) : -1;
    }

    int look() {
        Map<Integer, int[]> all = ways();
        int best = -1;
        int least = all.size();
        for (int d = 0; d <= 20; d++) {
            Map<Integer, Integer> counts = new HashMap<>();
            for (int[] h : all.values()) {
                counts.merge(h[d], 1, Integer::sum);
            }
            int most = counts.values().stream().max(Integer::compare).orElse(0);
            if (most < least) {
                least = most;
                best = d;
            }
        }
        return best;
    }

    int rules(int what) {
        List<int[]> fit = new ArrayList<>();
        for (int inch = 1; inch <= 20; inch++) {
            for (int how = 0; how < 3; how++) {
                int[] h = heights(now, 20, inch, how);
                if (measured.stream().allMatch(m -> h[m.days] == m.height)) {
                    fit.add(new int[] {inch, how});
                }
            }
        }
        return what == 0 ? fit.size() : what < 0 || what > 2 || fit.isEmpty() ? -1 : fit.get(0)[what - 1];
    }

    // ---- who feels whom ----

    /** Steps by steps, each set told anew: who is felt in just so many. */
    boolean inSteps(int a, int b, int steps) {
        if (steps == 1) {
            return now.feels(a, b);
        }
        for (int c = 0; c < n(); c++) {
            if (now.feels(a, c) && inSteps(c, b, steps - 1)) {
                return true;
            }
        }
        return false;
    }

    int through(int a, int b) {
        for (int steps = 1; steps <= 6 && !no(a) && !no(b); steps++) {
            if (inSteps(a, b, steps)) {
                return steps;
            }
        }
        return -1;
    }

    int reach(int person) {
        int bits = 0;
        for (int j = 0; j < n(); j++) {
            bits |= through(person, j) > 0 ? 1 << j : 0;
        }
        return no(person) ? -1 : bits;
    }

    int groups() {
        Set<Integer> groups = new HashSet<>();
        for (int i = 0; i < n(); i++) {
            int group = 1 << i;
            for (int j = 0; j < n(); j++) {
                group |= through(i, j) > 0 && through(j, i) > 0 ? 1 << j : 0;
            }
            groups.add(group);
        }
        return groups.size();
    }

    int deaf() {
        int bits = 0;
        for (int i = 0; i < n(); i++) {
            bits |= person(i, 3) == 0 ? 1 << i : 0;
        }
        return bits;
    }

    int hearts(int person) {
        int bits = 0;
        for (int i = 0; i < n(); i++) {
            bits |= now.feels(i, person) ? 1 << i : 0;
        }
        return no(person) ? -1 : bits;
    }

    int alike() {
        int many = 0;
        for (int i = 0; i < n(); i++) {
            for (int j = 0; j < i; j++) {
                many += now.lacks[i] == now.lacks[j] ? 1 : 0;
            }
        }
        return many;
    }

    int worse() {
        int bits = 0;
        for (int i = 0; i < n(); i++) {
            int most = -1;
            for (int j = 0; j < n(); j++) {
                most = now.feels(i, j) ? Math.max(most, now.lacks[j]) : most;
            }
            bits |= most >= 0 && now.lacks[i] > most ? 1 << i : 0;
        }
        return bits;
    }

    int mean() {
        return n() == 0 ? 0 : Arrays.stream(now.lacks).sum() / n();
    }

    // ---- odds and draws ----

    int chance(int person, int height, int days, int odds) {
        if (no(person) || height < 1 || height > 99 || days < 1 || days > 6 || odds < 0 || odds > 10) {
            return -1;
        }
        long parts = below(now, person, height, days, odds);
        long of = 1;
        for (int i = 0; i < days; i++) {
            of *= 10;
        }
        return (int) (parts * 1000000 / of);
    }

    /** Of ten to the days, how many. */
    long below(World w, int person, int height, int days, int odds) {
        if (days == 0) {
            return stand(w) < height ? 1 : 0;
        }
        World hit = w.copy();
        lose(hit, person, 3);
        pass(hit);
        World missed = w.copy();
        pass(missed);
        return odds * below(hit, person, height, days - 1, odds)
                + (10 - odds) * below(missed, person, height, days - 1, odds);
    }

    int rests(int both, int loses, int gets, int what) {
        if (Math.min(both, Math.min(loses, gets)) < 0 || Math.max(both, Math.max(loses, gets)) > 9) {
            return Check.THROWN;
        }
        int[][] mine = {{0, gets}, {-loses, both}};
        List<Integer> all = new ArrayList<>();
        for (int a = 0; a < 2; a++) {
            for (int b = 0; b < 2; b++) {
                if (mine[1 - a][b] <= mine[a][b] && mine[1 - b][a] <= mine[b][a]) {
                    all.add(2 * a + b);
                }
            }
        }
        return what == -1 ? all.size() : what < 0 || what >= all.size() ? Check.THROWN : all.get(what);
    }

    long g;

    int draw(int below) {
        g = Math.floorMod(Math.addExact(Math.multiplyExact(g, 1103515245L), 12345L), 2147483648L);
        return (int) (g / 65536 % below);
    }

    int years(int seed, int days, int what) {
        if (seed < 0 || seed > 9999 || days < 1 || days > 99 || what < 0 || what > 2) {
            return -1;
        }
        g = seed;
        World w = now.copy();
        int often = 0;
        for (int i = 0; i < days; i++) {
            int before = stand(w);
            if (n() > 0) {
                int who = draw(n());
                switch (draw(4)) {
                    case 0, 1 -> lose(w, who, draw(20) + 1);
                    case 2 -> get(w, who, draw(20) + 1);
                    default -> w.lacks[who] = 0;
                }
            }
            int between = stand(w);
            pass(w);
            often += (before != between ? 1 : 0) + (between != stand(w) ? 1 : 0);
        }
        return what == 0 ? often : what == 1 ? stand(w) : Arrays.stream(w.lacks).sum();
    }

    // ---- marks and counts ----

    boolean mark(int mark, boolean back) {
        if (mark < 0 || mark > 3 || back && !marks.containsKey(mark)) {
            return false;
        }
        if (!back) {
            marks.put(mark, new Marked(now.copy(), new ArrayList<>(seen), new ArrayList<>(measured)));
            return true;
        }
        now = marks.get(mark).world.copy();
        seen = new ArrayList<>(marks.get(mark).seen);
        measured = new ArrayList<>(marks.get(mark).measured);
        past.clear();
        return true;
    }

    int count(int what) {
        int bits = 0;
        for (int i = 0; i < n(); i++) {
            bits |= now.lacks[i] != 0 ? 1 << i : 0;
        }
        int[] all = {n(), town.mast, town.weighs, town.rounds, now.date, Arrays.stream(now.lacks).sum(),
            weights(now), bits, year.size(), seen.size(), measured.size(), past.size(), tape.length()};
        return what < 0 || what >= all.length ? -1 : all[what];
    }
}
