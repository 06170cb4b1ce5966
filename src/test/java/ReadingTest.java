/** Promises 1 to 4: a new object, feed, town, year, with every kind of FAULT. */
public final class ReadingTest {
    private static final Check CHECK = new Check("ReadingTest");
    private static final String ANN_BOB = "person ann plain lacks 1 ; person bob plain lacks 2 ; ";

    public static void main(String[] args) {
        aNewObject();
        feeding();
        takingTheTape();
        townsThatAreRight();
        townFaults();
        lawFaults();
        yearFaults();
        whatATownBeginsAnew();
        whatAFaultLeaves();
        CHECK.finish();
    }

    private static void aNewObject() {
        int[] counts = {0, 40, 6, 0, 0, 0, 0, 0, 0, 0, 0, 0, 0};
        HalfMast x = new HalfMast();
        for (int i = 0; i < counts.length; i++) {
            CHECK.due("new count(" + i + ")", x.count(i), counts[i]);
        }
        CHECK.due("new high", x.high(), 40);
        CHECK.due("new undo", x.undo(), false);
        for (int i = 0; i < 4; i++) {
            CHECK.due("new mark", x.mark(i, true), false);
        }
    }

    private static void feeding() {
        HalfMast x = new HalfMast();
        CHECK.due("feed signs", x.feed(0x6d61737420330a3bL, 0, 0), 8);
        CHECK.due("the highest byte first", x.town(), 0);
        CHECK.due("mast 3", x.count(1), 3);
        CHECK.due("left out: 0 9 11 31 127 128 255", x.feed(0x00090b1f7f80ff20L, 0x0a7e000000000000L, -1L), 3);
        CHECK.due("a, b, c in their order", x.feed(0x61L, 0x62L, 0x63L), 6);
        CHECK.due("the place of ~", x.town(), Check.fault(1, 2));
        for (int i = 1; i <= 41; i++) {
            CHECK.due("feed 24 blanks", x.feed(0x2020202020202020L, 0x2020202020202020L, 0x2020202020202020L), 24 * i);
        }
        CHECK.due("to 1,000", x.feed(0x2020202020202020L, 0x203b202020202020L, 0x2020202020202020L), 1000);
        CHECK.due("beyond 1,000", x.feed(0x3b3b3b3b3b3b3b3bL, 0x20L, 0x20L), 1000);
        CHECK.due("count(12)", x.count(12), 1000);
        CHECK.due("what is within 1,000 counts", x.town(), Check.fault(1, 993));
        CHECK.due("taken", x.count(12), 0);
        CHECK.due("feed nothing", x.feed(0, 0, 0), 0);
    }

    private static void takingTheTape() {
        HalfMast x = new HalfMast();
        Check.feed(x, "mast ");
        CHECK.due("in two goes", Check.town(x, "12 ;"), 0);
        CHECK.due("mast", x.count(1), 12);
        CHECK.due("the tape is empty", x.count(12), 0);
        CHECK.due("an empty town", x.town(), 0);
        CHECK.due("mast as at first", x.count(1), 40);
        CHECK.due("an empty year", x.year(), 0);
        Check.feed(x, "mast ;");
        CHECK.due("a fault", x.town(), Check.fault(1, 5));
        CHECK.due("takes it too", x.count(12), 0);
        Check.feed(x, "day");
        CHECK.due("a fault of a year", x.year(), Check.fault(1, 3));
        CHECK.due("takes it too", x.count(12), 0);
    }

    private static void townsThatAreRight() {
        HalfMast x = Check.in("mast30;weighs5;rounds\nup;person gone\nchild lacks0060;person abcdefgh widow lacks 0;"
                + "feels gone abcdefgh;feels abcdefgh gone;fares 3and 4 or(high)<not not not(felt);");
        CHECK.due("mast", x.count(1), 30);
        CHECK.due("weighs", x.count(2), 5);
        CHECK.due("rounds up", x.count(3), 1);
        CHECK.due("lacks 60", x.person(0, 1), 60);
        CHECK.due("child", x.person(0, 0), 3);
        CHECK.due("widow", x.person(1, 0), 2);
        CHECK.due("feels", x.person(0, 3), 2);
        CHECK.due("feels back", x.person(1, 3), 1);
        CHECK.due("near", Check.in("rounds near;").count(3), 2);
        CHECK.due("cut", Check.in("rounds cut;").count(3), 0);
        CHECK.due("the highest mast", Check.in("mast 99;").high(), 99);
        CHECK.due("the lowest mast", Check.in("mast 1;").high(), 1);
        CHECK.due("the dearest inch", Check.in("weighs 20;").count(2), 20);
        CHECK.due("the cheapest inch", Check.in("weighs 1;").count(2), 1);
        x = Check.in("person a plain lacks 1;person b lover lacks 1;person c widow lacks 1;person d child lacks 1;"
                + "person high plain lacks 1;person town plain lacks 1;");
        CHECK.due("six", x.count(0), 6);
        CHECK.due("kind 0", x.person(0, 0), 0);
        CHECK.due("kind 1", x.person(1, 0), 1);
        for (String law : new String[] {"((((1))))", "not not not not 1", "(not(not 1))", "1 + 2 * 3 - 4 < 5 = 6",
            "date"}) {
            int fault = Check.town(x, "fares " + law + ";");
            CHECK.due("fares " + law, fault, law.contains("=") ? Check.fault(1, 6 + law.indexOf('=')) : 0);
        }
    }

    /** The bar tells where the wrong token stands; it is not fed. */
    private static void faulty(HalfMast x, int kind, String text, boolean town) {
        String told = text.replace("|", "");
        int fault = town ? Check.town(x, told) : Check.year(x, told);
        CHECK.due((town ? "town " : "year ") + text, fault, Check.fault(kind, text.indexOf('|')));
    }

    private static void townFaults() {
        HalfMast x = new HalfMast();
        for (String text : new String[] {"|town", "|;", "|5", "|?", "|Mast 5", "|lose", "|day ;", "|ann", "|and",
            "mast 5 |", "mast 5|?", "mast 5 |5", "mast |", "mast |;", "mast |x", "mast |12345 ;", "mast |00005 ;",
            "mast 7|x", "mast 5 ; |;", "mast 5 |,", "weighs |up", "rounds |off", "rounds |1", "rounds |",
            "rounds |plain", "person |", "person |near plain", "person |and", "person |plain", "person |day",
            "person |5", "person |;", "person |abcdefghi plain", "person |Ann", "person a|9 plain", "person ann |sad",
            "person ann |cut", "person ann |ann", "person ann plain |lack", "person ann plain |5",
            "person ann plain lacks |ten", "person ann plain lacks |;", "person ann plain lacks |12345",
            "person ann plain lacks |-1", "person ann plain lacks 5 |", "person ann plain lacks 5\n|",
            "person ann plain lacks 5 |person", "feels |mast", "feels |5", "feels |;", "feels |",
            ANN_BOB + "feels ann |5", ANN_BOB + "feels ann |;", ANN_BOB + "feels ann |or", ANN_BOB + "feels ann bob |bob",
            ANN_BOB + "feels ann |abcdefghi", "mast 5 ; |abcdefghijk"}) {
            faulty(x, 1, text, true);
        }
        for (String text : new String[] {"feels |ann ann ;", "feels |gone", ANN_BOB + "feels |cid ann ;",
            ANN_BOB + "feels ann |cid ;", "person ann plain lacks 1 ; feels ann |bob ; person bob plain lacks 1 ;",
            ANN_BOB + "feels |an"}) {
            faulty(x, 2, text, true);
        }
        for (String text : new String[] {ANN_BOB + "person |ann", ANN_BOB + "person |bob plain lacks 5 ;",
            ANN_BOB + "feels ann |ann", ANN_BOB + "feels bob |bob ;", ANN_BOB + "feels ann bob ; feels ann |bob",
            ANN_BOB + "feels ann bob ; feels bob ann ; feels bob |ann ;", "mast 1 ; |mast", "weighs 1 ; |weighs 2 ;",
            "rounds up ; |rounds up ;", "fares 1 ; |fares 1 ;", "mast 1 ; rounds up ; |mast 0 ;"}) {
            faulty(x, 3, text, true);
        }
        for (String text : new String[] {"mast |0", "mast |100 ;", "mast |9999", "weighs |0 ;", "weighs |21",
            "person ann plain lacks |61", "person ann plain lacks |9999 ;"}) {
            faulty(x, 4, text, true);
        }
        for (String word : new String[] {"person", "lacks", "feels", "mast", "weighs", "rounds", "fares", "cut", "up", "near",
            "lose", "get", "spare", "feel", "day", "plain", "lover", "widow", "child", "not", "and", "or"}) {
            faulty(x, 1, "person |" + word + " plain lacks 1 ;", true);
            faulty(x, 1, "feels |" + word, true);
        }
        for (String name : new String[] {"gone", "high", "felt", "date", "a", "z", "azzzzzza", "persons", "lack", "o"}) {
            CHECK.due("a name: " + name, Check.town(x, "person " + name + " plain lacks 1 ;"), 0);
        }
        String six = "";
        for (String name : new String[] {"a", "b", "c", "d", "e", "f"}) {
            six += "person " + name + " plain lacks 1 ; ";
        }
        faulty(x, 5, six + "|person", true);
        faulty(x, 5, six + "mast 5 ; |person a plain lacks 1 ;", true);
        faulty(x, 1, six + "|day", true);
    }

    private static void lawFaults() {
        HalfMast x = new HalfMast();
        for (String law : new String[] {"|", "|;", "|lacks", "|ann", "|)", "|+ 1", "|- 1", "|and", "|<", "1 |", "1 |1",
            "1 |gone", "1 |not 1", "1 |(", "1 |)", "1 + |;", "1 - |)", "1 * |", "1 * |* 1", "1 < |;", "1 = |<",
            "1 < 2 |< 3", "1 = 2 |= 3", "1 < 2 |= 3", "1 and |;", "1 or |or 1", "(|)", "(1 |;", "(1|", "(1) |)",
            "not |;", "not |and", "((((1)))|;", "|12345", "|abcdefghi", "1 |?", "(1 < 2 |< 3)", "(((((|;", "(((((|)",
            "not not not not not |;", "not not not not not |ann", "(((((|12345"}) {
            faulty(x, 1, "fares " + law, true);
        }
        for (String law : new String[] {"(((((|1", "(((((|(", "(((((|not", "(((((|gone", "not not not not not |1",
            "not not not not not |not 1", "not(not(not|1))", "1 + ((((1 * (|2", "((((1 + not |date", "((((not|("}) {
            faulty(x, 5, "fares " + law, true);
        }
    }

    private static void yearFaults() {
        HalfMast x = Check.in(ANN_BOB);
        for (String text : new String[] {"|flag", "|;", "|mast 5 ;", "|ann", "|1", "day |", "day |1", "day |day",
            "day ; |;", "lose |", "lose |5", "lose |day", "lose ann |", "lose ann |bob", "lose ann |12345",
            "lose ann 5 |5", "lose ann 5 |", "get |;", "spare |;", "spare ann |1", "spare ann |ann", "feel |1",
            "feel ann |1", "feel ann |;", "feel ann bob |", "lose |abcdefghi"}) {
            faulty(x, 1, text, false);
        }
        for (String text : new String[] {"lose |cid", "get |cid 1 ;", "spare |gone ;", "feel |cid ann", "feel ann |cid"}) {
            faulty(x, 2, text, false);
        }
        faulty(x, 3, "feel ann |ann ;", false);
        faulty(x, 3, "day ; feel bob |bob", false);
        for (String text : new String[] {"lose ann |0", "lose ann |21 ;", "get bob |0 ;", "get ann |21"}) {
            faulty(x, 4, text, false);
        }
        String forty = "day ; feel ann bob ; lose ann 1 ; spare bob ; ".repeat(10);
        faulty(x, 5, forty + "|day", false);
        faulty(x, 5, forty + "|get cid 0", false);
        faulty(x, 1, forty + "|person", false);
        CHECK.due("forty lines", Check.year(x, forty), 0);
        CHECK.due("count(8)", x.count(8), 40);
        CHECK.due("the edges of amounts", Check.year(x, "lose ann 1;get bob 20;feel ann bob;feel ann bob;"), 0);
        CHECK.due("another year is the year", x.count(8), 4);
        CHECK.due("a year with nobody there", Check.year(new HalfMast(), "spare ann ;"), Check.fault(2, 6));
        CHECK.due("days with nobody there", Check.year(new HalfMast(), "day ; day ;"), 0);
    }

    private static void whatATownBeginsAnew() {
        HalfMast x = busy();
        CHECK.due("another town", Check.town(x, "person cid child lacks 7 ;"), 0);
        int[] counts = {1, 40, 6, 0, 0, 7, 3, 1, 0, 0, 0, 0, 0};
        for (int i = 0; i < counts.length; i++) {
            CHECK.due("anew count(" + i + ")", x.count(i), counts[i]);
        }
        for (int i = 0; i < 4; i++) {
            CHECK.due("no mark", x.mark(i, true), false);
        }
        CHECK.due("no undo", x.undo(), false);
        CHECK.due("feels nobody", x.person(0, 3), 0);
        CHECK.due("felt - 1 again", x.day(), 0);
        CHECK.due("so one less", x.person(0, 1), 6);
    }

    private static HalfMast busy() {
        HalfMast x = Check.in(ANN_BOB + "feels ann bob ; mast 50 ; weighs 3 ; rounds up ; fares 2 ;");
        Check.year(x, "day ;");
        x.lose(0, 5);
        x.day();
        x.see(1, 40);
        x.measure(1, 40);
        for (int i = 0; i < 4; i++) {
            x.mark(i, false);
        }
        return x;
    }

    private static void whatAFaultLeaves() {
        HalfMast x = busy();
        CHECK.due("a fault", Check.town(x, "person cid child lacks 7 ; mast 9 ; weighs 1 ; fares 1 ;;"),
                Check.fault(1, 56));
        CHECK.due("a fault of a year", Check.year(x, "day ; day ; da"), Check.fault(1, 12));
        int[] counts = {2, 50, 3, 1, 1, 12, 12, 3, 1, 1, 1, 2, 0};
        for (int i = 0; i < counts.length; i++) {
            CHECK.due("left count(" + i + ")", x.count(i), counts[i]);
        }
        CHECK.due("the mark is there", x.mark(2, true), true);
        x.day();
        CHECK.due("the law is there", x.person(0, 1), 10);
        CHECK.due("the names are there", Check.year(x, "lose bob 1 ;"), 0);
    }
}
