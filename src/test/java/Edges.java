import java.io.IOException;
import java.nio.charset.StandardCharsets;
import java.nio.file.Files;
import java.nio.file.Path;
import java.util.EnumMap;
import java.util.List;
import java.util.Map;
import java.util.function.IntSupplier;
import java.util.function.ToLongFunction;

/** Tests of boundary cases: one for each sentence of the document that names one, told with the sentence itself. */
final class Edges {
    static final int LEAST_INT = Integer.MIN_VALUE;
    static final int MOST_INT = Integer.MAX_VALUE;
    private static final int PROMISES = 47;

    private final Check check = new Check("EdgesTest");
    private final boolean[] tested = new boolean[PROMISES + 1];
    private final Map<Busy, List<String>> shown = new EnumMap<>(Busy.class);
    private final String document;
    private String title = "";
    private int sentences;
    private int asked;

    Edges() throws IOException {
        Path place = Path.of("../shared/DOC.md");
        document = Files.exists(place) ? plain(Files.readString(place, StandardCharsets.UTF_8)) : "";
        for (Busy busy : Busy.values()) {
            shown.put(busy, Shown.of(busy::made));
        }
    }

    private static String plain(String text) {
        return text.replaceAll("\\s+", " ");
    }

    /** A test of a promise, for a sentence of its own or of the terms that it uses. */
    void of(int promise, String sentence, Runnable test) {
        title = "Promise " + promise + ", '" + sentence + "'";
        tested[promise] = true;
        sentences++;
        asked = 0;
        test.run();
        check.due(title + ": asks something", asked > 0, true);
        if (!document.isEmpty()) {
            check.due(title + ": the document says so", says(promise, plain(sentence)), true);
        }
    }

    private boolean says(int promise, String sentence) {
        String own = document.substring(placeOf(promise), placeOf(promise + 1));
        String terms = document.substring(0, placeOf(1));
        return own.contains(sentence) || terms.contains(sentence);
    }

    private int placeOf(int promise) {
        return document.indexOf(promise > PROMISES ? "## Not promised" : "## Promise " + promise + ":");
    }

    void finish() {
        title = "";
        for (int i = 1; i <= PROMISES; i++) {
            check.due("promise " + i + " has a test", tested[i], true);
        }
        System.out.println("EdgesTest: " + sentences + " sentences" + (document.isEmpty() ? ", not looked up: no DOC.md" : ""));
        check.finish();
    }

    // ---- what is due ----

    void due(String call, long got, long want) {
        asked++;
        check.due(title + ": " + call, got, want);
    }

    void due(String call, boolean got, boolean want) {
        due(call, got ? 1 : 0, want ? 1 : 0);
    }

    void dueCounts(String when, HalfMast x, int... counts) {
        for (int what = 0; what < counts.length; what++) {
            due(when + ", count(" + what + ")", x.count(what), counts[what]);
        }
    }

    /** A call that is refused, whatever the town is: its answer, and nothing has changed behind it. */
    void refused(String call, ToLongFunction<HalfMast> doing, long want) {
        for (Busy busy : Busy.values()) {
            refusedIn(busy, call, doing, want);
        }
    }

    void refusedIn(Busy busy, String call, ToLongFunction<HalfMast> doing, long want) {
        due(call + " in the " + busy + " town", doing.applyAsLong(busy.made()), want);
        dueUnchanged(busy, call, doing);
    }

    /** A call that only asks. */
    void changesNothing(String call, ToLongFunction<HalfMast> doing) {
        for (Busy busy : Busy.values()) {
            dueUnchanged(busy, call, doing);
        }
    }

    private void dueUnchanged(Busy busy, String call, ToLongFunction<HalfMast> doing) {
        dueUnchangedBut(busy, call, doing, -1);
    }

    /** All is as it was but one part of what is shown. */
    void dueUnchangedBut(Busy busy, String call, ToLongFunction<HalfMast> doing, int part) {
        List<String> before = shown.get(busy);
        List<String> behind = Shown.of(() -> {
            HalfMast x = busy.made();
            doing.applyAsLong(x);
            return x;
        });
        for (int i = 0; i < before.size(); i++) {
            boolean alike = i == part || before.get(i).equals(behind.get(i));
            due(call + " changed the " + busy + " town: " + before.get(i) + " became " + behind.get(i), alike, true);
        }
    }

    // ---- texts: the first bar tells where the wrong token stands, and is not fed ----

    /** Its fault in any town, and nothing has changed behind it but the tape, which is taken. */
    void townFault(int kind, String text) {
        for (Busy busy : new Busy[] {Busy.NEW, Busy.SOME}) {
            fault(busy, kind, text, true);
        }
    }

    /** In the town of Busy.SOME, whose persons are ann, bob and cid. */
    void yearFault(int kind, String text) {
        fault(Busy.SOME, kind, text, false);
    }

    private void fault(Busy busy, int kind, String text, boolean town) {
        String told = text.replaceFirst("\\|", "");
        ToLongFunction<HalfMast> reading = x -> {
            Check.feed(x, told);
            return town ? x.town() : x.year();
        };
        refusedIn(busy, (town ? "town " : "year ") + text, reading, Check.fault(kind, text.indexOf('|')));
    }

    /** A new object with this town, which is due to have no fault. */
    HalfMast town(String text) {
        HalfMast x = new HalfMast();
        due("town " + text, Check.town(x, text), 0);
        return x;
    }

    void year(HalfMast x, String text) {
        due("year " + text, Check.year(x, text), 0);
    }

    /** One person, a; an inch weighs 1, so that the flag goes by what a lacks. */
    HalfMast one(int mast, int lacks, String fares) {
        return town("person a plain lacks " + lacks + ";weighs 1;mast " + mast + ";fares " + fares + ";");
    }

    /** Persons a, b, c and so on, of a kind (or kinds), each lacking so much. */
    static String persons(String kind, int... lacks) {
        StringBuilder text = new StringBuilder();
        for (int i = 0; i < lacks.length; i++) {
            text.append("person ").append((char) ('a' + i)).append(' ').append(kind).append(" lacks ").append(lacks[i]).append(';');
        }
        return text.toString();
    }

    static void times(int often, IntSupplier call) {
        for (int i = 0; i < often; i++) {
            call.getAsInt();
        }
    }
}
