/** Promises 4 and 13, year and judged: boundary cases. */
final class EdgesOfYears {
    private final Edges edges;

    EdgesOfYears(Edges edges) {
        this.edges = edges;
    }

    void all() {
        edges.of(4, "YEAR: any number of lose NAME N ; get NAME N ; spare NAME ; feel NAME NAME ; day ;", this::anyNumber);
        edges.of(4, "(a PERSON by 1 to 20; by 1 to 20; a PERSON; two PERSONS, not the same)", this::by1To20);
        edges.of(4, "two PERSONS, not the same), 40 lines at most", this::fortyLines);
        edges.of(4, "the first word of a 41st line of a YEAR", this::the41stLine);
        edges.of(4, "1 it is none, or can't stand there", this::cannotStandThere);
        edges.of(4, "2 a NAME of no PERSON told", this::noPersonTold);
        edges.of(4, "the second one of feels, feel that is the first one", this::theSecondIsTheFirst);
        edges.of(4, "4 a NUMBER that is not as told", this::notAsTold);
        edges.of(4, "the end being one at the text's length", this::theEnd);
        edges.of(4, "of the first token from the left that is wrong the least", this::theFirstTheLeast);
        edges.of(4, "The TAPE is read as a YEAR, likewise.", this::allStaysThen);
        edges.of(4, "A YEAR is the YEAR.", this::itIsTheYear);
        edges.of(13, "JUDGED: the YEAR from the begin (all lines can be)", this::fromTheBegin);
        edges.of(13, "(all lines can be): the first line (from 0) by which the flag moves", this::theFirstLine);
        edges.of(13, "how often it does; how high it stands at last.", this::howOftenHowHigh);
        edges.of(13, "what 0: a line (NONE: none), 1: how often, 2: how high; -2: others.", this::others);
    }

    private HalfMast three() {
        return edges.town("person ann plain lacks 12;person bob lover lacks 20;person cid widow lacks 5;");
    }

    private void anyNumber() {
        HalfMast x = three();
        edges.year(x, "");
        edges.due("no line", x.count(8), 0);
        edges.year(x, " \n ");
        edges.due("only blanks", x.count(8), 0);
        edges.year(x, "day;");
        edges.due("one line", x.count(8), 1);
        edges.year(x, "\nlose\nann\n1\n;\nget bob20;spare cid;feel ann bob;day;");
        edges.due("each sort", x.count(8), 5);
        HalfMast nobody = new HalfMast();
        edges.year(nobody, "day;day;");
        edges.due("days with nobody", nobody.count(8), 2);
    }

    private void by1To20() {
        HalfMast x = three();
        for (String line : new String[] {"lose ann 1", "lose ann 20", "get cid 1", "get cid 20", "lose bob 0020", "spare cid",
            "feel ann bob", "feel cid ann", "day"}) {
            edges.year(x, line + ";");
            edges.due(line, x.count(8), 1);
        }
        edges.year(x, "feel ann bob;feel ann bob;feel ann bob;");
        edges.due("as often as one likes", x.count(8), 3);
        for (String deed : new String[] {"lose", "get"}) {
            for (String wrong : new String[] {"0", "0000", "21", "99", "9999"}) {
                edges.yearFault(4, deed + " ann |" + wrong + ";");
            }
            edges.yearFault(1, deed + " ann |00001;");
            edges.yearFault(1, deed + " ann |-1;");
        }
        edges.yearFault(3, "feel ann |ann;");
    }

    private void fortyLines() {
        HalfMast x = three();
        String[] lines = {"day;", "lose ann 20;", "get bob 1;", "spare cid;", "feel cid ann;"};
        for (String line : lines) {
            for (int many = 39; many <= 40; many++) {
                edges.year(x, line.repeat(many));
                edges.due(many + " of " + line, x.count(8), many);
            }
            edges.yearFault(5, line.repeat(40) + "|" + line);
        }
        edges.year(x, "day;".repeat(40) + " \n");
        edges.due("blanks behind", x.count(8), 40);
    }

    private void the41stLine() {
        String forty = "day;".repeat(40);
        for (String word : new String[] {"lose", "get", "spare", "feel", "day"}) {
            edges.yearFault(5, forty + "|" + word);
            edges.yearFault(5, forty + " \n|" + word + " dot 0 ?");
        }
        edges.yearFault(5, forty + "|day;day;day;");
        edges.yearFault(1, forty + "|;");
        edges.yearFault(1, forty + "|ann");
        edges.yearFault(1, forty + "|person");
        edges.yearFault(1, forty + "|daydaydayday");
        edges.yearFault(1, "day;".repeat(39) + "day|");
        edges.yearFault(4, "day;".repeat(39) + "lose ann |0;day;");
    }

    private void cannotStandThere() {
        for (String word : new String[] {"ann", "flag", "person", "feels", "mast", "weighs", "rounds", "fares", "lacks", "plain",
            "not", "1", ";", "(", "!"}) {
            edges.yearFault(1, "|" + word);
            edges.yearFault(1, "day;|" + word);
        }
        for (String word : new String[] {"day", "plain", "not", "lose", "1", ";", "=", ""}) {
            for (String deed : new String[] {"lose ", "get ", "spare ", "feel ", "feel ann "}) {
                edges.yearFault(1, deed + "|" + word);
            }
        }
        for (String word : new String[] {"ann", "day", ";", "-", "", "12345"}) {
            edges.yearFault(1, "lose ann |" + word);
            edges.yearFault(1, "get ann |" + word);
        }
        for (String line : new String[] {"lose ann 5", "get ann 5", "spare ann", "feel ann bob", "day"}) {
            edges.yearFault(1, line + " |1");
            edges.yearFault(1, line + " |day");
            edges.yearFault(1, line + " |ann;");
        }
    }

    private void noPersonTold() {
        for (String line : new String[] {"lose |dot 1;", "get |dot 1;", "spare |dot;", "feel |dot ann;", "feel ann |dot;", "lose |an 1;",
            "lose |annn 1;", "spare |gone;", "feel |dot dot;", "feel |dot dat;"}) {
            edges.yearFault(2, line);
        }
        edges.due("nobody is told", Check.year(new HalfMast(), "spare ann;"), Check.fault(2, 6));
        HalfMast x = three();
        Check.town(x, "person eva plain lacks 1;");
        edges.due("of the town ahead", Check.year(x, "spare ann;"), Check.fault(2, 6));
        edges.due("of this one", Check.year(x, "spare eva;"), 0);
        Check.town(x, "person dot plain lacks 1;;");
        edges.due("of a TOWN with a FAULT", Check.year(x, "spare dot;"), Check.fault(2, 6));
        edges.due("of the one that stayed", Check.year(x, "spare eva;"), 0);
    }

    private void theSecondIsTheFirst() {
        edges.yearFault(3, "feel ann |ann;");
        edges.yearFault(3, "feel cid |cid;");
        edges.yearFault(3, "day;feel bob |bob");
        HalfMast x = three();
        edges.year(x, "feel ann cid;feel cid ann;");
        edges.due("each way", x.count(8), 2);
    }

    private void notAsTold() {
        edges.yearFault(4, "lose ann |0;");
        edges.yearFault(4, "lose ann |21;");
        edges.yearFault(4, "get ann |0;");
        edges.yearFault(4, "get ann |21;");
        edges.yearFault(4, "get ann |60");
    }

    private void theEnd() {
        for (String text : new String[] {"day|", "day \n|", "day;day|", "lose|", "lose |", "lose ann|", "lose ann 5|", "get ann 5 |",
            "spare|", "spare ann|", "feel|", "feel ann|", "feel ann bob|", "feel ann bob \n\n|"}) {
            edges.yearFault(1, text);
        }
        edges.yearFault(1, " ".repeat(997) + "day|");
        edges.due("where a line may begin", Check.year(three(), "day; \n "), 0);
    }

    private void theFirstTheLeast() {
        edges.yearFault(2, "lose |dot 0;");
        edges.yearFault(4, "lose ann |0 get;");
        edges.yearFault(3, "feel ann |ann ann;");
        edges.yearFault(2, "feel |dot dot 5;");
        edges.yearFault(1, "feel ann |21;");
        edges.yearFault(1, "spare |0;");
        edges.yearFault(4, "day;lose ann |21;lose dot 0;");
    }

    private void allStaysThen() {
        edges.yearFault(1, "lose ann 20;spare ann;feel ann cid;|;");
        edges.yearFault(2, "lose ann 20;spare |dot;");
        edges.yearFault(3, "lose ann 20;feel bob |bob;");
        edges.yearFault(4, "lose ann 20;get bob |0;");
        edges.yearFault(5, "lose ann 20;".repeat(40) + "|lose ann 20;");
        HalfMast x = three();
        edges.year(x, "lose ann 20;");
        // 32, 30 and 10 weigh.
        edges.due("told first", x.judged(2), 28);
        edges.due("a FAULT in its second line", Check.year(x, "lose ann 1;lose ann 0;"), Check.fault(4, 20));
        edges.due("the YEAR is as it was", x.judged(2), 28);
        edges.due("so are its lines", x.count(8), 1);
    }

    private void itIsTheYear() {
        HalfMast x = three();
        edges.year(x, "day;".repeat(40));
        edges.year(x, "lose ann 20;day;");
        edges.due("another one", x.count(8), 2);
        edges.year(x, "");
        edges.due("an empty one", x.count(8), 0);
        edges.due("by no line", x.judged(0), HalfMast.NONE);
        edges.year(x, "lose ann 20;");
        x.lose(0, 5);
        x.day();
        x.mark(0, false);
        edges.year(x, "day;day;");
        x.undo();
        edges.due("undo leaves it", x.count(8), 2);
        x.mark(0, true);
        edges.due("a MARK leaves it", x.count(8), 2);
        edges.due("a YEAR leaves the town", x.count(5), 39);
        edges.due("a YEAR leaves the day", x.count(4), 1);
    }

    private void fromTheBegin() {
        HalfMast x = edges.town("person a plain lacks 10;person b plain lacks 10;mast 99;weighs 1;fares date + felt * 3;");
        edges.year(x, "day;day;feel a b;lose b 1;day;");
        // 20 weigh; a DAY by date 0; one by date 1: 22; b loses 1: 23; by date 2, a feels b: 5 and 2 more, 30.
        edges.due("how high", x.judged(2), 69);
        edges.due("how often", x.judged(1), 3);
        edges.due("which line", x.judged(0), 1);
        Edges.times(9, x::day);
        x.feel(0, 1);
        x.feel(1, 0);
        x.lose(0, 20);
        x.spare(1);
        x.see(0, 0);
        x.measure(0, 0);
        edges.due("whatever was done: how high", x.judged(2), 69);
        edges.due("whatever was done: how often", x.judged(1), 3);
        edges.due("whatever was done: which line", x.judged(0), 1);
        edges.changesNothing("judged(0)", y -> y.judged(0));
        edges.changesNothing("judged(1)", y -> y.judged(1));
        edges.changesNothing("judged(2)", y -> y.judged(2));
        x = edges.one(99, 60, "9");
        edges.year(x, "lose a 20;day;get a 20;get a 20;get a 20;get a 20;spare a;day;");
        // At 60 nothing more is lost, at 0 nothing more is got.
        edges.due("all lines can be: how often", x.judged(1), 4);
        edges.due("all lines can be: which line", x.judged(0), 2);
        edges.due("all lines can be: how high", x.judged(2), 90);
    }

    private void theFirstLine() {
        HalfMast x = edges.one(99, 10, "0");
        edges.year(x, "lose a 1;lose a 1;");
        edges.due("line 0", x.judged(0), 0);
        edges.year(x, "day;lose a 1;");
        edges.due("line 1", x.judged(0), 1);
        edges.year(x, "day;".repeat(38) + "lose a 1;");
        edges.due("line 38", x.judged(0), 38);
        edges.year(x, "day;".repeat(39) + "get a 1;");
        edges.due("line 39", x.judged(0), 39);
        edges.year(x, "day;".repeat(40));
        edges.due("none of 40", x.judged(0), HalfMast.NONE);
        edges.year(x, "");
        edges.due("no line there is", x.judged(0), HalfMast.NONE);
        x = edges.town("person a plain lacks 10;weighs 20;fares 0;");
        edges.year(x, "lose a 9;lose a 1;");
        edges.due("by which the flag moves, not by which one lacks", x.judged(0), 1);
    }

    private void howOftenHowHigh() {
        HalfMast x = edges.one(99, 10, "0");
        edges.year(x, "");
        edges.due("no YEAR: never", x.judged(1), 0);
        edges.due("no YEAR: as told", x.judged(2), 89);
        edges.year(x, "lose a 1;get a 1;".repeat(20));
        edges.due("by each of 40", x.judged(1), 40);
        edges.due("as at first", x.judged(2), 89);
        edges.year(x, "lose a 1;get a 1;".repeat(19) + "lose a 1;day;");
        edges.due("by 39 of 40", x.judged(1), 39);
        edges.year(x, "spare a;");
        edges.due("at the mast", x.judged(2), 99);
        x = edges.one(10, 10, "9");
        edges.year(x, "get a 1;lose a 20;day;");
        edges.due("to the ground", x.judged(2), 0);
        edges.due("below it nothing moves", x.judged(1), 2);
        edges.due("nobody", new HalfMast().judged(2), 40);
    }

    private void others() {
        HalfMast x = edges.one(99, 10, "1");
        edges.year(x, "day;day;");
        edges.due("what 0", x.judged(0), 0);
        edges.due("what 1", x.judged(1), 2);
        edges.due("what 2", x.judged(2), 87);
        for (int wrong : new int[] {-1, 3, -2, Edges.LEAST_INT, Edges.MOST_INT}) {
            edges.refused("judged(" + wrong + ")", y -> y.judged(wrong), -2);
        }
    }
}
