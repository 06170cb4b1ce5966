import java.util.Arrays;
import java.util.NoSuchElementException;

/** The flag of a town, lowered for how much of its people is gone. README.md says how to use it. */
public final class HalfMast {
    public static final int NONE = -1;

    /** What person and judged answer where NONE is an answer of its own. */
    private static final int OTHERS = -2;
    /** What least answers where it can't be: every small number is an amount there. */
    private static final int NOT_BY_ANYBODY = -1000;

    private static final int MOST_SIGNS = 1000;
    private static final int MOST_PERSONS = 6;
    private static final int MOST_LACKING = 60;
    private static final int MOST_AMOUNT = 20;
    private static final int MOST_HEIGHT = 99;
    private static final int MOST_WEIGHT = 20;
    private static final int MOST_LINES = 40;
    private static final int MOST_DAYS = 60;
    private static final int MOST_NEAR_DAYS = 20;
    private static final int MOST_NOTES = 8;
    private static final int MOST_UNDONE = 16;
    private static final int MOST_MARKS = 4;
    private static final int HEIGHTS = MOST_HEIGHT + 1;

    private static final int PLAIN = 0;
    private static final int LOVER = 1;
    private static final int WIDOW = 2;
    private static final int CHILD = 3;

    private static final int CUT = 0;
    private static final int UP = 1;
    private static final int NEAR = 2;

    private static final int CANNOT_STAND = 1;
    private static final int UNKNOWN = 2;
    private static final int TOLD_ALREADY = 3;
    private static final int UNFIT = 4;
    private static final int TOO_MANY = 5;

    private final Tape tape = new Tape();
    private final History history = new History();
    private final Notes seen = new Notes();
    private final Notes measured = new Notes();
    private final Mark[] marks = new Mark[MOST_MARKS];
    /** How many WAYS stand at each height behind each number of days; a row for look alone. */
    private final int[] standing = new int[(MOST_NEAR_DAYS + 1) * HEIGHTS];
    private final Course now = new Course();
    /** For days that only might come: every question about them begins it anew. */
    private final Course ahead = new Course();
    private Town here = new Town();
    /** What is being read, so that a fault leaves the town as it is. */
    private Town townDraft = new Town();
    private Year told = new Year();
    private Year yearDraft = new Year();
    private long drawn;

    public HalfMast() {
        for (int i = 0; i < marks.length; i++) {
            marks[i] = new Mark();
        }
        here.clear();
        now.start(here, here.begin);
    }

    // ---- what is told ----

    public int feed(long a, long b, long c) {
        tape.append(a);
        tape.append(b);
        tape.append(c);
        return tape.length;
    }

    public int town() {
        int fault = townDraft.read(tape);
        if (fault == 0) {
            moveToDraft();
        }
        return fault;
    }

    private void moveToDraft() {
        Town left = here;
        here = townDraft;
        townDraft = left;
        told.clear();
        seen.clear();
        measured.clear();
        history.clear();
        for (int i = 0; i < MOST_MARKS; i++) {
            Mark mark = markAt(i);
            if (mark != null) {
                mark.laid = false;
            }
        }
        now.start(here, here.begin);
    }

    public int year() {
        int fault = yearDraft.read(tape, here);
        if (fault == 0) {
            Year left = told;
            told = yearDraft;
            yearDraft = left;
        }
        return fault;
    }

    // ---- what is so, and what is done by hand ----

    public int high() {
        return now.flag;
    }

    public int person(int person, int what) {
        if (!here.has(person)) {
            return OTHERS;
        }
        switch (what) {
            case 0:
                return at(here.kinds, person);
            case 1:
                return now.lacking(person);
            case 2:
                return here.weight(person, now.lacking(person));
            case 3:
                return at(now.state.feels, person);
            default:
                return OTHERS;
        }
    }

    public int lose(int person, int much) {
        return lackMore(person, much, 1);
    }

    public int get(int person, int much) {
        return lackMore(person, much, -1);
    }

    private int lackMore(int person, int much, int sign) {
        if (!here.has(person) || !within(much, 1, MOST_AMOUNT)) {
            return NONE;
        }
        history.keep(now.state);
        now.shift(person, sign * much);
        return now.lacking(person);
    }

    public int spare(int person) {
        if (!here.has(person)) {
            return NONE;
        }
        int before = now.flag;
        history.keep(now.state);
        now.letOff(person);
        return now.flag - before;
    }

    public boolean feel(int person, int other) {
        if (!here.has(person) || !here.has(other) || person == other) {
            return false;
        }
        history.keep(now.state);
        now.state.turnFeeling(person, other);
        return true;
    }

    public int day() {
        int before = now.flag;
        history.keep(now.state);
        now.passDay();
        return now.flag - before;
    }

    public boolean undo() {
        State last = history.takeLast();
        if (last == null) {
            return false;
        }
        now.start(here, last);
        return true;
    }

    public int judged(int what) {
        int first = NONE;
        int often = 0;
        ahead.start(here, here.begin);
        for (int line = 0; line < told.lines; line++) {
            int before = ahead.flag;
            told.carryOut(line, ahead);
            if (ahead.flag != before) {
                first = often == 0 ? line : first;
                often++;
            }
        }
        switch (what) {
            case 0:
                return first;
            case 1:
                return often;
            case 2:
                return ahead.flag;
            default:
                return OTHERS;
        }
    }

    // ---- days going by ----

    public int later(int days) {
        if (!within(days, 0, MOST_DAYS)) {
            return NONE;
        }
        ahead.start(here, now.state);
        ahead.passDays(days);
        return ahead.flag;
    }

    public int sill(int height) {
        if (!within(height, 0, MOST_HEIGHT)) {
            return NONE;
        }
        ahead.start(here, now.state);
        for (int days = 0; days <= MOST_DAYS; days++) {
            if (ahead.flag <= height) {
                return days;
            }
            ahead.passDay();
        }
        return NONE;
    }

    public int moves(int days) {
        if (!within(days, 1, MOST_DAYS)) {
            return NONE;
        }
        int often = 0;
        ahead.start(here, now.state);
        for (int i = 0; i < days; i++) {
            often += ahead.wayOfNextDay() != 0 ? 1 : 0;
        }
        return often;
    }

    public int settled() {
        ahead.start(here, now.state);
        for (int days = 0; days <= MOST_DAYS; days++) {
            if (!ahead.passDay()) {
                return days;
            }
        }
        return NONE;
    }

    public int lowest() {
        ahead.start(here, now.state);
        int lowest = ahead.flag;
        int when = 0;
        for (int days = 1; days <= MOST_DAYS; days++) {
            ahead.passDay();
            if (ahead.flag < lowest) {
                lowest = ahead.flag;
                when = days;
            }
        }
        return when;
    }

    public int rises(int days) {
        if (!within(days, 1, MOST_DAYS)) {
            return NONE;
        }
        int often = 0;
        ahead.start(here, now.state);
        for (int i = 0; i < days; i++) {
            often += ahead.wayOfNextDay() > 0 ? 1 : 0;
        }
        return often;
    }

    public int turn() {
        int last = 0;
        ahead.start(here, now.state);
        for (int day = 1; day <= MOST_DAYS; day++) {
            int way = ahead.wayOfNextDay();
            if (way != 0 && way == -last) {
                return day;
            }
            last = way != 0 ? way : last;
        }
        return NONE;
    }

    public int range(int days) {
        if (!within(days, 1, MOST_DAYS)) {
            return NONE;
        }
        ahead.start(here, now.state);
        int highest = ahead.flag;
        int lowest = ahead.flag;
        for (int i = 0; i < days; i++) {
            ahead.passDay();
            highest = Math.max(highest, ahead.flag);
            lowest = Math.min(lowest, ahead.flag);
        }
        return highest - lowest;
    }

    public int faith(int person) {
        if (!here.has(person)) {
            return NONE;
        }
        int often = 0;
        ahead.start(here, now.state);
        for (int i = 0; i < MOST_NEAR_DAYS; i++) {
            int before = ahead.lacking(person);
            ahead.passDay();
            often += ahead.lacking(person) == before ? 1 : 0;
        }
        return often;
    }

    public int blame(int days) {
        if (!within(days, 0, MOST_NEAR_DAYS)) {
            return NONE;
        }
        int highest = NONE;
        int who = NONE;
        for (int person = 0; person < here.persons; person++) {
            ahead.start(here, now.state);
            ahead.letOff(person);
            ahead.passDays(days);
            if (ahead.flag > highest) {
                highest = ahead.flag;
                who = person;
            }
        }
        return who;
    }

    // ---- so that it stands just so ----

    public int spared(int height) {
        if (!within(height, 1, MOST_HEIGHT)) {
            return NONE;
        }
        int best = NONE;
        for (int set = 0; set < 1 << here.persons; set++) {
            boolean fewer = best == NONE || Integer.bitCount(set) < Integer.bitCount(best);
            if (fewer && flagWithout(set) >= height) {
                best = set;
            }
        }
        return best;
    }

    private int flagWithout(int set) {
        int sum = 0;
        for (int person = 0; person < here.persons; person++) {
            if (!holds(set, person)) {
                sum += here.weight(person, now.lacking(person));
            }
        }
        return here.flagBy(sum);
    }

    public int least(int height, int what) {
        if (!within(height, 0, MOST_HEIGHT) || !within(what, 0, 1)) {
            return NOT_BY_ANYBODY;
        }
        if (now.flag == height) {
            return what == 0 ? 0 : NONE;
        }
        for (int much = 1; much <= MOST_LACKING; much++) {
            for (int more = much; more >= -much; more -= 2 * much) {
                int who = firstToReach(height, more);
                if (who != NONE) {
                    return what == 0 ? more : who;
                }
            }
        }
        return NOT_BY_ANYBODY;
    }

    private int firstToReach(int height, int more) {
        for (int person = 0; person < here.persons; person++) {
            int lacking = now.lacking(person) + more;
            if (within(lacking, 0, MOST_LACKING) && flagIfLacking(person, lacking) == height) {
                return person;
            }
        }
        return NONE;
    }

    private int flagIfLacking(int person, int lacking) {
        int others = here.weightOfAll(now.state) - here.weight(person, now.lacking(person));
        return here.flagBy(others + here.weight(person, lacking));
    }

    public int cost(int person) {
        if (!here.has(person)) {
            return NONE;
        }
        for (int less = 1; less <= now.lacking(person); less++) {
            if (flagIfLacking(person, now.lacking(person) - less) > now.flag) {
                return less;
            }
        }
        return NONE;
    }

    public int heavy() {
        int who = NONE;
        int most = NONE;
        for (int person = 0; person < here.persons; person++) {
            int weight = here.weight(person, now.lacking(person));
            if (weight > most) {
                most = weight;
                who = person;
            }
        }
        return who;
    }

    public int pair() {
        int highest = NONE;
        int who = NONE;
        for (int one = 0; one < here.persons; one++) {
            for (int other = one + 1; other < here.persons; other++) {
                int flag = flagWithout(bit(one) | bit(other));
                if (flag > highest) {
                    highest = flag;
                    who = 8 * one + other;
                }
            }
        }
        return who;
    }

    public int even() {
        if (now.flag == 0) {
            return 0;
        }
        int sum = here.weightOfAll(now.state);
        int more = 1;
        // One inch's weight always moves it by an inch.
        while (more < MOST_WEIGHT && here.flagBy(sum + more) >= now.flag) {
            more++;
        }
        return more;
    }

    // ---- who lost how much, and which rule fits ----

    public boolean see(int days, int height) {
        return seen.add(days, height);
    }

    public int ways(int what) {
        int many = 0;
        int who = 0;
        int least = NONE;
        int greatest = NONE;
        for (int person = 0; person < here.persons; person++) {
            for (int much = 1; much <= MOST_AMOUNT; much++) {
                startWay(person, much);
                if (bearsOut(seen)) {
                    many++;
                    who |= bit(person);
                    least = least == NONE ? much : Math.min(least, much);
                    greatest = Math.max(greatest, much);
                }
            }
        }
        switch (what) {
            case 0:
                return many;
            case 1:
                return who;
            case 2:
                return least;
            case 3:
                return greatest;
            default:
                return NONE;
        }
    }

    private void startWay(int person, int much) {
        ahead.start(here, now.state);
        ahead.shift(person, much);
    }

    private boolean bearsOut(Notes notes) {
        int last = notes.lastDay();
        for (int days = 0; days < last; days++) {
            if (!notes.agree(days, ahead.flag)) {
                return false;
            }
            ahead.passDay();
        }
        return notes.agree(last, ahead.flag);
    }

    public int look() {
        Arrays.fill(standing, 0);
        int all = 0;
        for (int person = 0; person < here.persons; person++) {
            for (int much = 1; much <= MOST_AMOUNT; much++) {
                startWay(person, much);
                if (bearsOut(seen)) {
                    all++;
                    startWay(person, much);
                    countStanding();
                }
            }
        }
        int least = all;
        int when = NONE;
        for (int days = 0; days <= MOST_NEAR_DAYS; days++) {
            int most = mostAlike(days);
            if (most < least) {
                least = most;
                when = days;
            }
        }
        return when;
    }

    private void countStanding() {
        for (int days = 0; days <= MOST_NEAR_DAYS; days++) {
            int place = days * HEIGHTS + ahead.flag;
            put(standing, place, at(standing, place) + 1);
            ahead.passDay();
        }
    }

    private int mostAlike(int days) {
        int most = 0;
        for (int height = 0; height < HEIGHTS; height++) {
            most = Math.max(most, at(standing, days * HEIGHTS + height));
        }
        return most;
    }

    public boolean measure(int days, int height) {
        return measured.add(days, height);
    }

    public int rules(int what) {
        int many = 0;
        int firstWeight = NONE;
        int firstRounding = NONE;
        for (int weighs = 1; weighs <= MOST_WEIGHT; weighs++) {
            for (int rounds = CUT; rounds <= NEAR; rounds++) {
                ahead.startBy(here, now.state, weighs, rounds);
                if (bearsOut(measured)) {
                    firstWeight = many == 0 ? weighs : firstWeight;
                    firstRounding = many == 0 ? rounds : firstRounding;
                    many++;
                }
            }
        }
        switch (what) {
            case 0:
                return many;
            case 1:
                return firstWeight;
            case 2:
                return firstRounding;
            default:
                return NONE;
        }
    }

    // ---- who feels whom, who lacks what ----

    public int reach(int person) {
        return here.has(person) ? now.state.feltFrom(person) : NONE;
    }

    public int through(int person, int other) {
        if (!here.has(person) || !here.has(other)) {
            return NONE;
        }
        int felt = at(now.state.feels, person);
        for (int steps = 1; steps <= MOST_PERSONS; steps++) {
            if (holds(felt, other)) {
                return steps;
            }
            felt |= now.state.feltBy(felt);
        }
        return NONE;
    }

    public int groups() {
        int many = 0;
        for (int person = 0; person < here.persons; person++) {
            many += isFirstOfGroup(person) ? 1 : 0;
        }
        return many;
    }

    private boolean isFirstOfGroup(int person) {
        int felt = now.state.feltFrom(person);
        for (int other = 0; other < person; other++) {
            if (holds(felt, other) && holds(now.state.feltFrom(other), person)) {
                return false;
            }
        }
        return true;
    }

    public int deaf() {
        int who = 0;
        for (int person = 0; person < here.persons; person++) {
            who |= at(now.state.feels, person) == 0 ? bit(person) : 0;
        }
        return who;
    }

    public int hearts(int person) {
        if (!here.has(person)) {
            return NONE;
        }
        int who = 0;
        for (int other = 0; other < here.persons; other++) {
            who |= now.state.feels(other, person) ? bit(other) : 0;
        }
        return who;
    }

    public int alike() {
        int pairs = 0;
        for (int one = 0; one < here.persons; one++) {
            for (int other = one + 1; other < here.persons; other++) {
                pairs += now.lacking(one) == now.lacking(other) ? 1 : 0;
            }
        }
        return pairs;
    }

    public int worse() {
        int who = 0;
        for (int person = 0; person < here.persons; person++) {
            who |= lacksMoreThanFelt(person) ? bit(person) : 0;
        }
        return who;
    }

    private boolean lacksMoreThanFelt(int person) {
        for (int other = 0; other < here.persons; other++) {
            if (now.state.feels(person, other) && now.lacking(other) >= now.lacking(person)) {
                return false;
            }
        }
        return at(now.state.feels, person) != 0;
    }

    public int mean() {
        return here.persons > 0 ? lackedByAll(now) / here.persons : 0;
    }

    private int lackedByAll(Course course) {
        int sum = 0;
        for (int person = 0; person < here.persons; person++) {
            sum += course.lacking(person);
        }
        return sum;
    }

    // ---- by odds and draws ----

    public int chance(int person, int height, int days, int odds) {
        if (!here.has(person) || !within(height, 1, MOST_HEIGHT)
                || !within(days, 1, 6) || !within(odds, 0, 10)) {
            return NONE;
        }
        int millionths = 0;
        for (int set = 0; set < 1 << days; set++) {
            int likely = likelihood(set, days, odds);
            if (likely > 0 && flagByTeeth(person, set, days) < height) {
                millionths += likely;
            }
        }
        return millionths;
    }

    /** In millionths, of losing on just the days of the set: six days of tenths at most leave nothing to cut. */
    private static int likelihood(int set, int days, int odds) {
        int likely = 1000000;
        for (int day = 0; day < days; day++) {
            likely = likely * (holds(set, day) ? odds : 10 - odds) / 10;
        }
        return likely;
    }

    private int flagByTeeth(int person, int set, int days) {
        ahead.start(here, now.state);
        for (int day = 0; day < days; day++) {
            if (holds(set, day)) {
                ahead.shift(person, 3);
            }
            ahead.passDay();
        }
        return ahead.flag;
    }

    public int rests(int both, int loses, int gets, int what) throws NoSuchElementException {
        if (!within(both, 0, 9) || !within(loses, 0, 9) || !within(gets, 0, 9)) {
            throw new NoSuchElementException("each is told by 0 to 9");
        }
        int many = 0;
        for (int choices = 0; choices < 4; choices++) {
            if (isRest(choices, both, loses, gets)) {
                if (many == what) {
                    return choices;
                }
                many++;
            }
        }
        if (what != NONE) {
            throw new NoSuchElementException("there is no such rest");
        }
        return many;
    }

    private static boolean isRest(int choices, int both, int loses, int gets) {
        boolean one = choices >= 2;
        boolean other = choices % 2 == 1;
        return gain(one, other, both, loses, gets) >= gain(!one, other, both, loses, gets)
                && gain(other, one, both, loses, gets) >= gain(!other, one, both, loses, gets);
    }

    private static int gain(boolean hauls, boolean otherHauls, int both, int loses, int gets) {
        if (hauls) {
            return otherHauls ? both : -loses;
        }
        return otherHauls ? gets : 0;
    }

    public int years(int seed, int days, int what) {
        if (!within(seed, 0, 9999) || !within(days, 1, 99) || !within(what, 0, 2)) {
            return NONE;
        }
        drawn = seed;
        int often = 0;
        ahead.start(here, now.state);
        for (int i = 0; i < days; i++) {
            int before = ahead.flag;
            doByDraws();
            often += ahead.flag != before ? 1 : 0;
            often += ahead.wayOfNextDay() != 0 ? 1 : 0;
        }
        if (what == 0) {
            return often;
        }
        return what == 1 ? ahead.flag : lackedByAll(ahead);
    }

    private void doByDraws() {
        if (here.persons < 1) {
            return;
        }
        int person = draw(here.persons);
        int deed = draw(4);
        if (deed == 3) {
            ahead.letOff(person);
        } else {
            int much = draw(MOST_AMOUNT) + 1;
            ahead.shift(person, deed == 2 ? -much : much);
        }
    }

    private int draw(int below) {
        drawn = (drawn * 1103515245L + 12345L) % 2147483648L;
        return below > 0 ? (int) (drawn / 65536L % below) : 0;
    }

    // ---- marks and counts ----

    public boolean mark(int mark, boolean back) {
        Mark place = markAt(mark);
        if (place == null) {
            return false;
        }
        return back ? goBack(place) : lay(place);
    }

    private Mark markAt(int i) {
        return i >= 0 && i < marks.length ? marks[i] : null;
    }

    private boolean lay(Mark mark) {
        mark.state.copy(now.state);
        mark.seen.copy(seen);
        mark.measured.copy(measured);
        mark.laid = true;
        return true;
    }

    private boolean goBack(Mark mark) {
        if (!mark.laid) {
            return false;
        }
        now.start(here, mark.state);
        seen.copy(mark.seen);
        measured.copy(mark.measured);
        history.clear();
        return true;
    }

    public int count(int what) {
        switch (what) {
            case 0:
                return here.persons;
            case 1:
                return here.mast;
            case 2:
                return here.weighs;
            case 3:
                return here.rounds;
            case 4:
                return now.state.date;
            case 5:
                return lackedByAll(now);
            case 6:
                return here.weightOfAll(now.state);
            case 7:
                return whoLacks();
            case 8:
                return told.lines;
            case 9:
                return seen.many;
            case 10:
                return measured.many;
            case 11:
                return history.many;
            case 12:
                return tape.length;
            default:
                return NONE;
        }
    }

    private int whoLacks() {
        int who = 0;
        for (int person = 0; person < here.persons; person++) {
            who |= now.lacking(person) > 0 ? bit(person) : 0;
        }
        return who;
    }

    // ---- small things that all use ----

    private static boolean within(int value, int least, int most) {
        return value >= least && value <= most;
    }

    private static int between(int value, int least, int most) {
        return Math.max(least, Math.min(most, value));
    }

    private static int bit(int i) {
        return 1 << i;
    }

    private static boolean holds(int set, int i) {
        return (set & bit(i)) != 0;
    }

    /** Rows are read by this and written by put, so that no index goes astray. */
    private static int at(int[] row, int i) {
        return i >= 0 && i < row.length ? row[i] : 0;
    }

    private static void put(int[] row, int i, int value) {
        if (i >= 0 && i < row.length) {
            row[i] = value;
        }
    }

    /** The words that mean something; the facts alone may be names, too. */
    private enum Word {
        OTHER("", false),
        PERSON("person", true), LACKS("lacks", true), FEELS("feels", true), MAST("mast", true),
        WEIGHS("weighs", true), ROUNDS("rounds", true), FARES("fares", true),
        CUT("cut", true), UP("up", true), NEAR("near", true),
        LOSE("lose", true), GET("get", true), SPARE("spare", true), FEEL("feel", true), DAY("day", true),
        PLAIN("plain", true), LOVER("lover", true), WIDOW("widow", true), CHILD("child", true),
        NOT("not", true), AND("and", true), OR("or", true),
        GONE("gone", false), HIGH("high", false), FELT("felt", false), DATE("date", false);

        private static final Word[] ALL = values();

        private final long letters;
        private final boolean reserved;

        Word(String text, boolean reserved) {
            long packed = 0;
            for (int i = 0; i < text.length(); i++) {
                packed = packed * 32 + (text.charAt(i) - 'a' + 1);
            }
            this.letters = packed;
            this.reserved = reserved;
        }

        private static Word by(long letters) {
            for (Word word : ALL) {
                if (word.letters == letters) {
                    return word;
                }
            }
            return OTHER;
        }
    }

    /** The signs that were fed, and the token of them that is being looked at. */
    private static final class Tape {
        private static final int END = 0;
        private static final int WORD = 1;
        private static final int NUMBER = 2;
        private static final int SIGN = 3;
        private static final int NO_TOKEN = 4;
        private static final int MOST_LETTERS = 8;
        private static final int MOST_DIGITS = 4;
        private static final String SIGNS = "()<=+-*;";

        private final char[] signs = new char[MOST_SIGNS];
        private int length;
        private int place;
        private int behind;
        private int sort;
        private int number;
        /** A word's letters, five bits each: a name is known by them. */
        private long letters;
        private Word word = Word.OTHER;
        private int fault;

        private void append(long bytes) {
            for (int shift = 56; shift >= 0; shift -= 8) {
                int sign = (int) (bytes >>> shift) & 255;
                boolean fits = sign == 10 || within(sign, 32, 126);
                if (fits && length >= 0 && length < signs.length) {
                    signs[length] = (char) sign;
                    length++;
                }
            }
        }

        private void rewind() {
            behind = 0;
            fault = 0;
            advance();
        }

        private void clear() {
            length = 0;
        }

        private char signAt(int i) {
            return i >= 0 && i < length && i < signs.length ? signs[i] : 0;
        }

        private void advance() {
            if (fault != 0) {
                return;
            }
            place = behind;
            while (place < length && (signAt(place) == ' ' || signAt(place) == 10)) {
                place++;
            }
            word = Word.OTHER;
            char sign = signAt(place);
            if (place >= length) {
                sort = END;
                behind = place;
            } else if (isLetter(sign)) {
                takeInWord();
            } else if (isDigit(sign)) {
                takeInNumber();
            } else {
                sort = SIGNS.indexOf(sign) >= 0 ? SIGN : NO_TOKEN;
                behind = place + 1;
            }
        }

        private void takeInWord() {
            letters = 0;
            for (behind = place; behind < length && isLetter(signAt(behind)); behind++) {
                letters = letters * 32 + (signAt(behind) - 'a' + 1);
            }
            boolean fits = behind - place <= MOST_LETTERS;
            sort = fits ? WORD : NO_TOKEN;
            word = fits ? Word.by(letters) : Word.OTHER;
        }

        private void takeInNumber() {
            number = 0;
            for (behind = place; behind < length && isDigit(signAt(behind)); behind++) {
                number = number * 10 + (signAt(behind) - '0');
            }
            sort = behind - place <= MOST_DIGITS ? NUMBER : NO_TOKEN;
        }

        private static boolean isLetter(char sign) {
            return sign >= 'a' && sign <= 'z';
        }

        private static boolean isDigit(char sign) {
            return sign >= '0' && sign <= '9';
        }

        /** The first fault stays; no token is there any more, so that all reading comes to an end. */
        private void refuse(int kind) {
            if (fault == 0) {
                fault = kind + 16 * place;
            }
            sort = NO_TOKEN;
            word = Word.OTHER;
        }

        private boolean goesOn() {
            return fault == 0 && sort != END;
        }

        private boolean atSign(char sign) {
            return sort == SIGN && signAt(place) == sign;
        }

        private boolean atWord(Word wanted) {
            return word == wanted;
        }

        private boolean atName() {
            return sort == WORD && !word.reserved;
        }

        private boolean atNumber() {
            return sort == NUMBER;
        }

        private void takeSign(char sign) {
            if (atSign(sign)) {
                advance();
            } else {
                refuse(CANNOT_STAND);
            }
        }

        private void takeWord(Word wanted) {
            if (atWord(wanted)) {
                advance();
            } else {
                refuse(CANNOT_STAND);
            }
        }

        private int takeNumber(int least, int most) {
            int told = number;
            if (!atNumber()) {
                refuse(CANNOT_STAND);
            } else if (!within(told, least, most)) {
                refuse(UNFIT);
            }
            advance();
            return told;
        }
    }

    /** How one fares: steps that lay values on a stack and put them together. */
    private static final class Law {
        private static final int GONE = -1;
        private static final int HIGH = -2;
        private static final int FELT = -3;
        private static final int DATE = -4;
        private static final int NOT = -5;
        private static final int AND = -6;
        private static final int OR = -7;
        private static final int LESS = -8;
        private static final int SAME = -9;
        private static final int PLUS = -10;
        private static final int MINUS = -11;
        private static final int TIMES = -12;
        private static final int NO_STEP = -13;
        private static final int MOST_WITHIN = 5;
        /** At each of five levels four values may wait, for and, < , + and *; the last part comes on top. */
        private static final int MOST_WAITING = 4 * MOST_WITHIN + 1;

        /** A number is its own step; facts are below 0, what puts values together is below these. */
        private final int[] steps = new int[MOST_SIGNS];
        private final int[] stack = new int[MOST_WAITING];
        private int size;

        /** What holds where no law is told. */
        private void useOldLaw() {
            forget();
            add(FELT);
            add(1);
            add(MINUS);
        }

        private void add(int step) {
            if (size < steps.length) {
                put(steps, size, step);
                size++;
            }
        }

        private void forget() {
            size = 0;
        }

        private void readWhole(Tape tape, int depth) {
            readTest(tape, depth);
            for (int i = 0; i < MOST_SIGNS && (tape.atWord(Word.AND) || tape.atWord(Word.OR)); i++) {
                int step = tape.atWord(Word.AND) ? AND : OR;
                tape.advance();
                readTest(tape, depth);
                add(step);
            }
        }

        private void readTest(Tape tape, int depth) {
            readSum(tape, depth);
            if (tape.atSign('<') || tape.atSign('=')) {
                int step = tape.atSign('<') ? LESS : SAME;
                tape.advance();
                readSum(tape, depth);
                add(step);
            }
        }

        private void readSum(Tape tape, int depth) {
            readProduct(tape, depth);
            for (int i = 0; i < MOST_SIGNS && (tape.atSign('+') || tape.atSign('-')); i++) {
                int step = tape.atSign('+') ? PLUS : MINUS;
                tape.advance();
                readProduct(tape, depth);
                add(step);
            }
        }

        private void readProduct(Tape tape, int depth) {
            readPart(tape, depth);
            for (int i = 0; i < MOST_SIGNS && tape.atSign('*'); i++) {
                tape.advance();
                readPart(tape, depth);
                add(TIMES);
            }
        }

        private void readPart(Tape tape, int depth) {
            int step = tape.atNumber() ? tape.number : factOf(tape.word);
            boolean deeper = tape.atWord(Word.NOT) || tape.atSign('(');
            if (step == NO_STEP && !deeper) {
                tape.refuse(CANNOT_STAND);
            } else if (depth >= MOST_WITHIN) {
                tape.refuse(TOO_MANY);
            } else if (tape.atWord(Word.NOT)) {
                tape.advance();
                readPart(tape, depth + 1);
                add(NOT);
            } else if (deeper) {
                tape.advance();
                readWhole(tape, depth + 1);
                tape.takeSign(')');
            } else {
                add(step);
                tape.advance();
            }
        }

        private static int factOf(Word word) {
            switch (word) {
                case GONE:
                    return GONE;
                case HIGH:
                    return HIGH;
                case FELT:
                    return FELT;
                case DATE:
                    return DATE;
                default:
                    return NO_STEP;
            }
        }

        private int tell(int gone, int high, int felt, int date) {
            int top = 0;
            for (int i = 0; i < size && i < steps.length; i++) {
                int step = steps[i];
                if (step > NOT && top < stack.length) {
                    stack[top] = step >= 0 ? step : factBy(step, gone, high, felt, date);
                    top++;
                } else if (step == NOT && top >= 1 && top <= stack.length) {
                    stack[top - 1] = stack[top - 1] == 0 ? 1 : 0;
                } else if (step < NOT && top >= 2 && top <= stack.length) {
                    top--;
                    stack[top - 1] = join(step, stack[top - 1], stack[top]);
                }
            }
            return stack[0];
        }

        private static int factBy(int step, int gone, int high, int felt, int date) {
            switch (step) {
                case GONE:
                    return gone;
                case HIGH:
                    return high;
                case FELT:
                    return felt;
                default:
                    return date;
            }
        }

        private static int join(int step, int left, int right) {
            switch (step) {
                case AND:
                    return left != 0 && right != 0 ? 1 : 0;
                case OR:
                    return left != 0 || right != 0 ? 1 : 0;
                case LESS:
                    return left < right ? 1 : 0;
                case SAME:
                    return left == right ? 1 : 0;
                case PLUS:
                    return left + right;
                case MINUS:
                    return left - right;
                default:
                    return left * right;
            }
        }
    }

    /** All that undo brings back. */
    private static final class State {
        private final int[] lacks = new int[MOST_PERSONS];
        private final int[] feels = new int[MOST_PERSONS];
        private int date;

        private void clear() {
            Arrays.fill(lacks, 0);
            Arrays.fill(feels, 0);
            date = 0;
        }

        private void copy(State other) {
            System.arraycopy(other.lacks, 0, lacks, 0, MOST_PERSONS);
            System.arraycopy(other.feels, 0, feels, 0, MOST_PERSONS);
            date = other.date;
        }

        private boolean feels(int person, int other) {
            return holds(at(feels, person), other);
        }

        private void turnFeeling(int person, int other) {
            put(feels, person, at(feels, person) ^ bit(other));
        }

        private int lackingMoreAmongFelt(int person) {
            int felt = at(feels, person);
            int gone = at(lacks, person);
            int many = 0;
            for (int other = 0; other < lacks.length && felt >> other != 0; other++) {
                if (holds(felt, other) && lacks[other] > gone) {
                    many++;
                }
            }
            return many;
        }

        private int feltBy(int set) {
            int felt = 0;
            for (int person = 0; person < MOST_PERSONS; person++) {
                felt |= holds(set, person) ? at(feels, person) : 0;
            }
            return felt;
        }

        private int feltFrom(int person) {
            int felt = at(feels, person);
            for (int steps = 1; steps < MOST_PERSONS; steps++) {
                felt |= feltBy(felt);
            }
            return felt;
        }
    }

    /** A town as it was told. */
    private static final class Town {
        private static final int TOLD_MAST = 1;
        private static final int TOLD_WEIGHS = 2;
        private static final int TOLD_ROUNDS = 4;
        private static final int TOLD_FARES = 8;

        private final long[] names = new long[MOST_PERSONS];
        private final int[] kinds = new int[MOST_PERSONS];
        private final State begin = new State();
        private final Law law = new Law();
        private int persons;
        private int mast;
        private int weighs;
        private int rounds;
        private int toldOnce;

        private void clear() {
            begin.clear();
            law.useOldLaw();
            persons = 0;
            mast = 40;
            weighs = 6;
            rounds = HalfMast.CUT;
            toldOnce = 0;
        }

        private int read(Tape tape) {
            clear();
            tape.rewind();
            for (int i = 0; i < MOST_SIGNS && tape.goesOn(); i++) {
                readLine(tape);
                tape.takeSign(';');
            }
            tape.clear();
            return tape.fault;
        }

        private void readLine(Tape tape) {
            switch (tape.word) {
                case PERSON:
                    readPerson(tape);
                    break;
                case FEELS:
                    readFeels(tape);
                    break;
                case MAST:
                    beginOnce(tape, TOLD_MAST);
                    mast = tape.takeNumber(1, MOST_HEIGHT);
                    break;
                case WEIGHS:
                    beginOnce(tape, TOLD_WEIGHS);
                    weighs = tape.takeNumber(1, MOST_WEIGHT);
                    break;
                case ROUNDS:
                    beginOnce(tape, TOLD_ROUNDS);
                    rounds = takeRounding(tape);
                    break;
                case FARES:
                    beginOnce(tape, TOLD_FARES);
                    law.forget();
                    law.readWhole(tape, 0);
                    break;
                default:
                    tape.refuse(CANNOT_STAND);
            }
        }

        private void beginOnce(Tape tape, int told) {
            if ((toldOnce & told) != 0) {
                tape.refuse(TOLD_ALREADY);
            }
            toldOnce |= told;
            tape.advance();
        }

        private void readPerson(Tape tape) {
            if (persons >= MOST_PERSONS) {
                tape.refuse(TOO_MANY);
                return;
            }
            tape.advance();
            long name = takeNewName(tape);
            int kind = takeKind(tape);
            tape.takeWord(Word.LACKS);
            int lacks = tape.takeNumber(0, MOST_LACKING);
            if (persons >= 0 && persons < names.length) {
                names[persons] = name;
            }
            put(kinds, persons, kind);
            put(begin.lacks, persons, lacks);
            persons++;
        }

        private long takeNewName(Tape tape) {
            long name = tape.letters;
            if (!tape.atName()) {
                tape.refuse(CANNOT_STAND);
            } else if (find(name) != NONE) {
                tape.refuse(TOLD_ALREADY);
            }
            tape.advance();
            return name;
        }

        private static int takeKind(Tape tape) {
            int kind = kindOf(tape.word);
            if (kind == NONE) {
                tape.refuse(CANNOT_STAND);
            }
            tape.advance();
            return kind;
        }

        private static int kindOf(Word word) {
            switch (word) {
                case PLAIN:
                    return HalfMast.PLAIN;
                case LOVER:
                    return HalfMast.LOVER;
                case WIDOW:
                    return HalfMast.WIDOW;
                case CHILD:
                    return HalfMast.CHILD;
                default:
                    return NONE;
            }
        }

        private static int takeRounding(Tape tape) {
            int rounding = roundingOf(tape.word);
            if (rounding == NONE) {
                tape.refuse(CANNOT_STAND);
            }
            tape.advance();
            return rounding;
        }

        private static int roundingOf(Word word) {
            switch (word) {
                case CUT:
                    return HalfMast.CUT;
                case UP:
                    return HalfMast.UP;
                case NEAR:
                    return HalfMast.NEAR;
                default:
                    return NONE;
            }
        }

        private void readFeels(Tape tape) {
            tape.advance();
            int one = takePerson(tape);
            int other = personAt(tape);
            if (other != NONE && (other == one || begin.feels(one, other))) {
                tape.refuse(TOLD_ALREADY);
            }
            tape.advance();
            begin.turnFeeling(one, other);
        }

        private int takePerson(Tape tape) {
            int person = personAt(tape);
            tape.advance();
            return person;
        }

        private int takeOther(Tape tape, int one) {
            int other = personAt(tape);
            if (other != NONE && other == one) {
                tape.refuse(TOLD_ALREADY);
            }
            tape.advance();
            return other;
        }

        private int personAt(Tape tape) {
            int person = tape.atName() ? find(tape.letters) : NONE;
            if (!tape.atName()) {
                tape.refuse(CANNOT_STAND);
            } else if (person == NONE) {
                tape.refuse(UNKNOWN);
            }
            return person;
        }

        private int find(long name) {
            for (int i = 0; i < persons && i < names.length; i++) {
                if (names[i] == name) {
                    return i;
                }
            }
            return NONE;
        }

        private boolean has(int person) {
            return person >= 0 && person < persons;
        }

        private int weight(int person, int lacking) {
            switch (at(kinds, person)) {
                case HalfMast.LOVER:
                    return lacking > 0 ? lacking + 10 : 0;
                case HalfMast.WIDOW:
                    return 2 * lacking;
                case HalfMast.CHILD:
                    return lacking / 2;
                default:
                    return lacking;
            }
        }

        private int weightOfAll(State state) {
            int sum = 0;
            for (int person = 0; person < persons; person++) {
                sum += weight(person, at(state.lacks, person));
            }
            return sum;
        }

        private int flagBy(int sum) {
            return flagUnder(sum, weighs, rounds);
        }

        private int flagUnder(int sum, int inch, int rounding) {
            return Math.max(0, mast - inches(sum, inch, rounding));
        }

        private static int inches(int sum, int inch, int rounding) {
            if (inch < 1) {
                return 0;
            }
            if (rounding == HalfMast.UP) {
                return (sum + inch - 1) / inch;
            }
            return rounding == HalfMast.NEAR ? (2 * sum + inch) / (2 * inch) : sum / inch;
        }
    }

    /** A town on its way through the days, under its own rule of rounding or another one. */
    private static final class Course {
        private final State state = new State();
        private final int[] next = new int[MOST_PERSONS];
        private Town town;
        private int weighs;
        private int rounds;
        private int flag;

        private void start(Town town, State from) {
            startBy(town, from, town.weighs, town.rounds);
        }

        private void startBy(Town place, State from, int inch, int rounding) {
            town = place;
            weighs = inch;
            rounds = rounding;
            state.copy(from);
            setFlag();
        }

        private void setFlag() {
            if (town != null) {
                flag = town.flagUnder(town.weightOfAll(state), weighs, rounds);
            }
        }

        private int lacking(int person) {
            return at(state.lacks, person);
        }

        private void shift(int person, int more) {
            put(state.lacks, person, between(lacking(person) + more, 0, MOST_LACKING));
            setFlag();
        }

        private void letOff(int person) {
            shift(person, -MOST_LACKING);
        }

        /** Whether it changed anybody. */
        private boolean passDay() {
            int persons = town != null ? town.persons : 0;
            for (int person = 0; person < persons; person++) {
                put(next, person, lackingTomorrow(person));
            }
            boolean changed = false;
            for (int person = 0; person < persons; person++) {
                changed |= at(next, person) != lacking(person);
                put(state.lacks, person, at(next, person));
            }
            state.date++;
            setFlag();
            return changed;
        }

        private int lackingTomorrow(int person) {
            int gone = lacking(person);
            int more = town == null ? 0
                    : town.law.tell(gone, flag, state.lackingMoreAmongFelt(person), state.date);
            return between(gone + between(more, -9, 9), 0, MOST_LACKING);
        }

        private void passDays(int days) {
            for (int i = 0; i < days; i++) {
                passDay();
            }
        }

        /** Passes a day: 1 if the flag went up by it, -1 if down. */
        private int wayOfNextDay() {
            int before = flag;
            passDay();
            return Integer.compare(flag, before);
        }
    }

    /** The lines of a year that was told. */
    private static final class Year {
        private static final int LOSE = 0;
        private static final int GET = 1;
        private static final int SPARE = 2;
        private static final int FEEL = 3;
        private static final int DAY = 4;

        private final int[] deeds = new int[MOST_LINES];
        private final int[] persons = new int[MOST_LINES];
        /** How much is lost or got, or who is felt. */
        private final int[] seconds = new int[MOST_LINES];
        private int lines;

        private void clear() {
            lines = 0;
        }

        private int read(Tape tape, Town town) {
            clear();
            tape.rewind();
            for (int i = 0; i < MOST_SIGNS && tape.goesOn(); i++) {
                readLine(tape, town);
                tape.takeSign(';');
            }
            tape.clear();
            return tape.fault;
        }

        private void readLine(Tape tape, Town town) {
            int deed = deedOf(tape.word);
            if (deed == NONE) {
                tape.refuse(CANNOT_STAND);
            } else if (lines >= MOST_LINES) {
                tape.refuse(TOO_MANY);
            } else {
                tape.advance();
                put(deeds, lines, deed);
                put(persons, lines, deed == DAY ? NONE : town.takePerson(tape));
                put(seconds, lines, takeSecond(tape, town, deed));
                lines++;
            }
        }

        private int takeSecond(Tape tape, Town town, int deed) {
            if (deed == FEEL) {
                return town.takeOther(tape, at(persons, lines));
            }
            return deed == LOSE || deed == GET ? tape.takeNumber(1, MOST_AMOUNT) : NONE;
        }

        private static int deedOf(Word word) {
            switch (word) {
                case LOSE:
                    return LOSE;
                case GET:
                    return GET;
                case SPARE:
                    return SPARE;
                case FEEL:
                    return FEEL;
                case DAY:
                    return DAY;
                default:
                    return NONE;
            }
        }

        private void carryOut(int line, Course course) {
            int person = at(persons, line);
            int second = at(seconds, line);
            switch (at(deeds, line)) {
                case LOSE:
                    course.shift(person, second);
                    break;
                case GET:
                    course.shift(person, -second);
                    break;
                case SPARE:
                    course.letOff(person);
                    break;
                case FEEL:
                    course.state.turnFeeling(person, second);
                    break;
                default:
                    course.passDay();
            }
        }
    }

    /** What was so ahead of the last deeds, a ring. */
    private static final class History {
        private final State[] states = new State[MOST_UNDONE];
        private int next;
        private int many;

        private History() {
            for (int i = 0; i < states.length; i++) {
                states[i] = new State();
            }
        }

        private void clear() {
            many = 0;
        }

        private State stateAt(int i) {
            return i >= 0 && i < states.length ? states[i] : null;
        }

        private void keep(State state) {
            State slot = stateAt(next);
            if (slot != null) {
                slot.copy(state);
            }
            next = (next + 1) % MOST_UNDONE;
            many = Math.min(many + 1, MOST_UNDONE);
        }

        /** Null: there is none. */
        private State takeLast() {
            if (many == 0) {
                return null;
            }
            many--;
            next = (next + MOST_UNDONE - 1) % MOST_UNDONE;
            return stateAt(next);
        }
    }

    /** What was seen, or measured: behind how many days it stands how high. */
    private static final class Notes {
        private final int[] days = new int[MOST_NOTES];
        private final int[] heights = new int[MOST_NOTES];
        private int many;

        private void clear() {
            many = 0;
        }

        private void copy(Notes other) {
            System.arraycopy(other.days, 0, days, 0, MOST_NOTES);
            System.arraycopy(other.heights, 0, heights, 0, MOST_NOTES);
            many = other.many;
        }

        private boolean add(int day, int height) {
            if (!within(day, 0, MOST_NEAR_DAYS) || !within(height, 0, MOST_HEIGHT) || many >= MOST_NOTES) {
                return false;
            }
            put(days, many, day);
            put(heights, many, height);
            many++;
            return true;
        }

        private boolean agree(int day, int height) {
            for (int i = 0; i < many; i++) {
                if (at(days, i) == day && at(heights, i) != height) {
                    return false;
                }
            }
            return true;
        }

        private int lastDay() {
            int last = 0;
            for (int i = 0; i < many; i++) {
                last = Math.max(last, at(days, i));
            }
            return last;
        }
    }

    /** What may be gone back to. */
    private static final class Mark {
        private final State state = new State();
        private final Notes seen = new Notes();
        private final Notes measured = new Notes();
        private boolean laid;
    }
}
