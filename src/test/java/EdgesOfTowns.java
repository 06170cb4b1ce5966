/** Promise 3, town: boundary cases of what a TOWN tells, its FAULTS, and what it begins anew. */
final class EdgesOfTowns {
    private static final String AB = "person a plain lacks 1;person b plain lacks 2;";
    private static final String[] TAKEN = {"person", "lacks", "feels", "mast", "weighs", "rounds", "fares", "cut", "up", "near",
        "lose", "get", "spare", "feel", "day", "plain", "lover", "widow", "child", "not", "and", "or"};

    private final Edges edges;

    EdgesOfTowns(Edges edges) {
        this.edges = edges;
    }

    void all() {
        edges.of(3, "TOWN: any number of", this::anyNumber);
        edges.of(3, "person: 6 at most, numbered as told", this::sixAtMost);
        edges.of(3, "KIND: plain, lover, widow, child", this::kinds);
        edges.of(3, "lacks 0 to 60", this::lacks0To60);
        edges.of(3, "feels: two PERSONS told, the first one feels the second one, not the same, each once (so)", this::feels);
        edges.of(3, "mast 1 to 99 (40)", this::mast1To99);
        edges.of(3, "weighs 1 to 20 (6)", this::weighs1To20);
        edges.of(3, "rounds: HOW: cut, up, near (cut)", this::rounds);
        edges.of(3, "mast, weighs, rounds, fares: once each.", this::onceEach);
        edges.of(3, "A NAME is another WORD than person, lacks, feels, mast, weighs, rounds, fares, cut, up, near, lose, get, "
                + "spare, feel, day, the KINDS, not, and, or", this::names);
        edges.of(3, "no two are alike.", this::noTwoAreAlike);
        edges.of(3, "FAULTS, kind + 16 * the place (from 0) of a token", this::kindsAndPlaces);
        edges.of(3, "the end being one at the text's length", this::theEnd);
        edges.of(3, "of the first token from the left that is wrong the least", this::theFirstTheLeast);
        edges.of(3, "1 it is none, or can't stand there", this::cannotStandThere);
        edges.of(3, "2 a NAME of no PERSON told", this::noPersonTold);
        edges.of(3, "3 a NAME told already; the second one of feels, feel that is the first one; of feels that the first one "
                + "feels already; mast, weighs, rounds, fares a second time", this::toldAlready);
        edges.of(3, "4 a NUMBER that is not as told", this::notAsTold);
        edges.of(3, "5 one too many: the word person of a seventh", this::theSeventh);
        edges.of(3, "Without a FAULT a TOWN is the TOWN from then on: day 0, all as told, no YEAR, nothing SEEN, nothing "
                + "MEASURED, nothing can be undone, no MARK is there.", this::whatBeginsAnew);
        edges.of(3, "0, or its FAULT (all stays then)", this::allStaysThen);
    }

    private void anyNumber() {
        edges.dueCounts("no line", edges.town(""), 0, 40, 6, 0, 0, 0, 0, 0);
        edges.dueCounts("one line", edges.town("weighs 20;"), 0, 40, 20, 0, 0, 0, 0, 0);
        StringBuilder every = new StringBuilder(Edges.persons("plain", 1, 1, 1, 1, 1, 1));
        for (int i = 0; i < 36; i++) {
            if (i / 6 != i % 6) {
                every.append("feels ").append((char) ('a' + i / 6)).append(' ').append((char) ('a' + i % 6)).append(';');
            }
        }
        HalfMast x = edges.town(every + "mast 1;weighs 1;rounds up;fares 1;");
        edges.dueCounts("every line that there can be", x, 6, 1, 1, 1, 0, 6, 6, 63);
        for (int i = 0; i < 6; i++) {
            edges.due("all others", x.person(i, 3), 63 - (1 << i));
        }
        x = edges.town("fares 0-1;rounds near;mast 50;person b plain lacks 2;weighs 2;person a plain lacks 4;feels a b;");
        edges.dueCounts("in any order", x, 2, 50, 2, 2, 0, 6, 6, 3);
        edges.due("a is the second one", x.person(1, 3), 1);
    }

    private void sixAtMost() {
        HalfMast x = edges.town(Edges.persons("plain", 11, 12, 13, 14, 15));
        edges.due("five", x.count(0), 5);
        edges.due("no sixth", x.person(5, 1), -2);
        x = edges.town(Edges.persons("plain", 11, 12, 13, 14, 15, 16));
        edges.due("six", x.count(0), 6);
        for (int i = 0; i < 6; i++) {
            edges.due("numbered as told", x.person(i, 1), 11 + i);
        }
        edges.due("no seventh", x.person(6, 1), -2);
        edges.townFault(5, Edges.persons("plain", 11, 12, 13, 14, 15, 16) + "|person g plain lacks 17;");
    }

    private void kinds() {
        String[] kinds = {"plain", "lover", "widow", "child"};
        for (int i = 0; i < 4; i++) {
            edges.due(kinds[i], edges.town("person a " + kinds[i] + " lacks 1;").person(0, 0), i);
        }
        for (String wrong : new String[] {"plai", "plains", "lovers", "wido", "a", "cut", "lacks", "5", ";", ""}) {
            edges.townFault(1, "person a |" + wrong);
        }
    }

    private void lacks0To60() {
        for (int lacks : new int[] {0, 1, 59, 60}) {
            edges.due("lacks", edges.town("person a plain lacks " + lacks + ";").person(0, 1), lacks);
        }
        for (String wrong : new String[] {"61", "100", "999", "9999"}) {
            edges.townFault(4, "person a plain lacks |" + wrong + ";");
        }
        edges.townFault(1, "person a plain lacks |-1;");
        edges.townFault(1, "person a plain lacks |00060;");
        edges.due("0060", edges.town("person a plain lacks 0060;").person(0, 1), 60);
    }

    private void feels() {
        edges.due("one way", edges.town(AB + "feels a b;").person(1, 3), 0);
        HalfMast x = edges.town(AB + "feels a b;feels b a;");
        edges.due("each way once", x.person(0, 3), 2);
        edges.due("each way once", x.person(1, 3), 1);
        edges.townFault(3, AB + "feels a |a;");
        edges.townFault(3, AB + "feels b |b;");
        edges.townFault(3, AB + "feels a b;feels a |b;");
        edges.townFault(3, AB + "feels a b;feels b a;feels b |a;");
        edges.townFault(2, AB + "feels |c a;");
        edges.townFault(2, AB + "feels a |c;");
        edges.townFault(2, "person a plain lacks 1;feels a |b;person b plain lacks 1;");
        edges.townFault(2, "person a plain lacks 1;feels |b a;person b plain lacks 1;");
        edges.townFault(2, "feels |a b;");
    }

    private void mast1To99() {
        edges.due("none told", edges.town("").count(1), 40);
        for (int mast : new int[] {1, 2, 98, 99}) {
            HalfMast x = edges.town("mast " + mast + ";");
            edges.due("mast", x.count(1), mast);
            edges.due("it stands there", x.high(), mast);
        }
        for (String wrong : new String[] {"0", "0000", "100", "9999"}) {
            edges.townFault(4, "mast |" + wrong + ";");
        }
    }

    private void weighs1To20() {
        edges.due("none told", edges.town("").count(2), 6);
        for (int weighs : new int[] {1, 2, 19, 20}) {
            edges.due("weighs", edges.town("weighs " + weighs + ";").count(2), weighs);
        }
        for (String wrong : new String[] {"0", "0000", "21", "9999"}) {
            edges.townFault(4, "weighs |" + wrong + ";");
        }
    }

    private void rounds() {
        edges.due("none told", edges.town("").count(3), 0);
        String[] how = {"cut", "up", "near"};
        for (int i = 0; i < 3; i++) {
            edges.due(how[i], edges.town("rounds " + how[i] + ";").count(3), i);
        }
        for (String wrong : new String[] {"u", "ups", "nearer", "off", "plain", "0", "2", ";", ""}) {
            edges.townFault(1, "rounds |" + wrong);
        }
    }

    private void onceEach() {
        for (String line : new String[] {"mast 5", "weighs 5", "rounds up", "fares 1"}) {
            String word = line.substring(0, line.indexOf(' '));
            edges.due("once", Check.town(new HalfMast(), line + ";"), 0);
            edges.townFault(3, line + ";|" + line + ";");
            edges.townFault(3, line + ";" + AB + "|" + word);
            edges.townFault(3, line + ";|" + word + " lacks;");
        }
        edges.due("each of the four", edges.town("mast 5;weighs 5;rounds up;fares 1;").count(1), 5);
        HalfMast x = edges.town("mast 5;weighs 5;rounds up;fares 1;");
        edges.due("and again in the next TOWN", Check.town(x, "mast 6;weighs 6;rounds near;fares 2;"), 0);
        x = new HalfMast();
        Check.town(x, "mast 6;mast 7;");
        edges.due("and behind a FAULT", Check.town(x, "mast 8;"), 0);
    }

    private void names() {
        for (String word : TAKEN) {
            edges.townFault(1, "person |" + word + " plain lacks 1;");
            edges.townFault(1, AB + "feels |" + word + " a;");
            edges.townFault(1, AB + "feels a |" + word + ";");
            edges.due("a letter more than " + word, edges.town("person " + word + "x plain lacks 1;").count(0), 1);
        }
        for (String fact : new String[] {"gone", "high", "felt", "date", "town", "year"}) {
            HalfMast x = edges.town("person " + fact + " plain lacks 1;person a plain lacks 1;feels a " + fact + ";");
            edges.due("another WORD: " + fact, x.person(1, 3), 1);
        }
    }

    private void noTwoAreAlike() {
        edges.townFault(3, AB + "person |a plain lacks 1;");
        edges.townFault(3, AB + "person |b lover lacks 3;");
        edges.townFault(3, "person a plain lacks 1;person |a");
        edges.due("aa and a", edges.town("person a plain lacks 1;person aa plain lacks 1;person aaa plain lacks 1;").count(0), 3);
        edges.due("ab and ba", edges.town("person ab plain lacks 1;person ba plain lacks 1;").count(0), 2);
        edges.due("the last letter",
                edges.town("person zzzzzzzz plain lacks 1;person zzzzzzzy plain lacks 1;person yzzzzzzz plain lacks 1;").count(0), 3);
        HalfMast x = edges.town(AB);
        edges.due("in another TOWN", Check.town(x, AB), 0);
    }

    private void kindsAndPlaces() {
        String[][] faults = {{"?", "1"}, {" ?", "17"}, {"feels a", "98"}, {"mast 1;mast", "115"}, {"mast 0", "84"},
            {"fares (((((1", "181"}, {" ".repeat(999) + "?", "15985"}, {" ".repeat(995) + "mast ", "16001"},
            {" ".repeat(994) + "mast 0", "15988"}};
        for (String[] c : faults) {
            edges.due("a FAULT in " + c[0].trim(), Check.town(new HalfMast(), c[0]), Integer.parseInt(c[1]));
        }
    }

    private void theEnd() {
        edges.townFault(1, "mast|");
        edges.townFault(1, "mast |");
        edges.townFault(1, "mast  \n |");
        edges.townFault(1, "mast 5|");
        edges.townFault(1, "mast 5\n\n|");
        edges.townFault(1, "mast 5;weighs|");
        edges.townFault(1, "person a plain lacks 5|");
        edges.townFault(1, "fares (1|");
        edges.townFault(1, AB + "feels a b|");
        edges.townFault(1, " ".repeat(995) + "mast |");
        edges.due("the end where a line may begin", Check.town(new HalfMast(), "mast 5; \n "), 0);
    }

    private void theFirstTheLeast() {
        edges.townFault(4, "mast |0 weighs 0;");
        edges.townFault(1, "mast 5 |weighs 0;");
        edges.townFault(2, AB + "feels |c d e;");
        edges.townFault(3, "mast 5;|mast 0;");
        edges.townFault(4, "person a plain lacks |61 61;");
        // A NAME told already is no KIND, a NUMBER too large no NAME: each can't stand there.
        edges.townFault(1, "person a |a lacks 1;");
        edges.townFault(1, "person |9999 plain lacks 1;");
        edges.townFault(1, "rounds |9999;");
        edges.townFault(1, AB + "feels a |99;");
        edges.townFault(1, Edges.persons("plain", 1, 1, 1, 1, 1, 1) + "|plain;");
        edges.townFault(5, Edges.persons("plain", 1, 1, 1, 1, 1, 1) + "|person a;");
    }

    private void cannotStandThere() {
        for (String word : new String[] {"a", "gone", "lacks", "cut", "up", "near", "lose", "get", "spare", "feel", "day", "plain",
            "not", "and", "or", "5", ";", "(", "?", "town"}) {
            edges.townFault(1, "|" + word + " a;");
            edges.townFault(1, "mast 5;|" + word + " a;");
        }
        edges.townFault(1, "mast |mast 5;");
        edges.townFault(1, "mast |up;");
        edges.townFault(1, "mast |;");
        edges.townFault(1, "weighs |-5;");
        edges.townFault(1, "person |;");
        edges.townFault(1, "person a plain |5;");
        edges.townFault(1, "person a plain |lack 5;");
        edges.townFault(1, "person a plain lacks |;");
        edges.townFault(1, "person a plain lacks 5 |lacks;");
        edges.townFault(1, AB + "feels |;");
        edges.townFault(1, AB + "feels a |;");
        edges.townFault(1, AB + "feels a b |c;");
    }

    private void noPersonTold() {
        edges.townFault(2, "feels |a");
        edges.townFault(2, AB + "feels |ab");
        edges.townFault(2, AB + "feels b |aa;");
        edges.townFault(2, "person aaaaaaaa plain lacks 1;feels |aaaaaaa");
        // A person of the TOWN that is there is none of the one that is being told.
        HalfMast x = edges.town(AB);
        edges.due("of the town ahead", Check.town(x, "feels a b;"), Check.fault(2, 6));
        edges.due("it stays", x.count(0), 2);
        edges.due("of a TOWN with a FAULT", Check.town(x, "person c plain lacks 1;;"), Check.fault(1, 23));
        edges.due("is none", Check.town(x, "feels c a;"), Check.fault(2, 6));
    }

    private void toldAlready() {
        edges.townFault(3, AB + "person |a");
        edges.townFault(3, AB + "feels a |a");
        edges.townFault(3, AB + "feels a b;feels a |b");
        edges.townFault(3, "mast 5;|mast");
        edges.townFault(3, "weighs 5;|weighs");
        edges.townFault(3, "rounds cut;|rounds");
        edges.townFault(3, "fares 1;|fares");
        edges.townFault(3, "mast 5;weighs 5;rounds cut;fares 1;|weighs 5;");
    }

    private void notAsTold() {
        edges.townFault(4, "mast |0");
        edges.townFault(4, "mast |100");
        edges.townFault(4, "weighs |0");
        edges.townFault(4, "weighs |21");
        edges.townFault(4, "person a plain lacks |61");
        edges.due("a law's NUMBER may be any", edges.one(40, 0, "9999").count(0), 1);
    }

    private void theSeventh() {
        String five = Edges.persons("plain", 1, 1, 1, 1, 1);
        edges.due("a sixth", edges.town(five + "person f plain lacks 1;mast 5;").count(0), 6);
        edges.townFault(5, five + "person f plain lacks 1;|person");
        edges.townFault(5, five + "person f plain lacks 1;|person;");
        edges.townFault(5, five + "person f plain lacks 1;mast 5;|person f plain lacks 99;");
        edges.townFault(1, five + "person f plain lacks 1;|persons");
        edges.townFault(3, five + "person |e plain lacks 1;");
    }

    private void whatBeginsAnew() {
        for (Busy busy : Busy.values()) {
            HalfMast x = busy.made();
            x.year();
            edges.due("a TOWN", Check.town(x, "person eva child lacks 7;person ann plain lacks 1;feels ann eva;"), 0);
            edges.dueCounts("anew", x, 2, 40, 6, 0, 0, 8, 4, 3, 0, 0, 0, 0, 0);
            edges.due("high", x.high(), 40);
            edges.due("whom ann feels", x.person(1, 3), 1);
            edges.due("whom eva feels", x.person(0, 3), 0);
            edges.due("no YEAR: no line", x.judged(0), HalfMast.NONE);
            edges.due("nothing SEEN", x.ways(0), 40);
            edges.due("nothing MEASURED", x.rules(0), 60);
            for (int mark = 0; mark < 4; mark++) {
                edges.due("no MARK", x.mark(mark, true), false);
            }
            edges.due("nothing can be undone", x.undo(), false);
            x.day();
            edges.due("felt - 1: eva feels nobody", x.person(0, 1), 6);
            edges.due("felt - 1: ann feels eva", x.person(1, 1), 1);
            edges.due("old names are none", Check.year(x, "spare bob;"), Check.fault(2, 6));
            edges.due("an empty one", x.town(), 0);
            edges.dueCounts("nobody", x, 0, 40, 6, 0, 0, 0, 0, 0, 0, 0, 0, 0, 0);
        }
        // However many were told ahead of it, and with a FAULT or without.
        HalfMast x = edges.town(AB + "feels a b;feels b a;fares 9;mast 9;weighs 1;rounds up;");
        for (int i = 0; i < 3; i++) {
            edges.due("as told", Check.town(x, AB), 0);
            edges.dueCounts("as told", x, 2, 40, 6, 0, 0, 3, 3, 3, 0, 0, 0, 0, 0);
            edges.due("a feels nobody", x.person(0, 3), 0);
            edges.due("b feels nobody", x.person(1, 3), 0);
            x.day();
            edges.due("felt - 1", x.count(5), 1);
            Check.town(x, AB + "feels a b;feels b a;fares 9;mast 9;weighs 1;rounds up;" + (i == 1 ? ";" : ""));
        }
    }

    private void allStaysThen() {
        edges.townFault(1, "person dot child lacks 7;mast 9;weighs 1;rounds up;fares 1;feels dot |;");
        edges.townFault(2, "person ann child lacks 7;mast 9;weighs 1;rounds up;fares 1;feels ann |bob;");
        edges.townFault(3, "person cid lover lacks 60;mast 9;weighs 1;rounds up;fares 1;|mast 9;");
        edges.townFault(4, "mast 9;weighs 1;rounds up;fares 1;person ann child lacks |61;");
        edges.townFault(5, "mast 9;" + Edges.persons("widow", 60, 60, 60, 60, 60, 60) + "|person ann plain lacks 1;");
        edges.townFault(5, "fares (((((|1)))));");
        edges.townFault(1, "fares high - gone;|;");
    }
}
