import java.nio.charset.StandardCharsets;

/** Promises 1 and 2, and how the TAPE is taken apart: boundary cases. */
final class EdgesOfTape {
    private static final long BLANKS = 0x2020202020202020L;
    private static final String SIGNS = "()<=+-*;";

    private final Edges edges;

    EdgesOfTape(Edges edges) {
        this.edges = edges;
    }

    void all() {
        edges.of(1, "An object is used for at most 512 calls after it has been made", this::upToThe512thCall);
        edges.of(1, "`HalfMast()`: Nothing.", this::nothingIsThere);
        edges.of(1, "At first: nothing.", this::nothingOfAnotherObject);
        edges.of(1, "The constants: `NONE = -1`: None.", () -> edges.due("NONE", HalfMast.NONE, -1));
        edges.of(2, "Up to 24 signs come behind the TAPE", this::upTo24Signs);
        edges.of(2, "the bytes of a, b, c, of each the highest first", this::theHighestFirst);
        edges.of(2, "others than 10 and 32 .. 126, and what is beyond 1,000, are left out", this::everyByte);
        edges.of(2, "The TAPE has at most 1,000 signs, 10 and 32 .. 126", this::atMost1000);
        edges.of(2, "what is beyond 1,000, are left out: how many there are", this::howManyThereAre);
        edges.of(3, "what reads it takes it: it is empty then", this::itIsEmptyThen);
        edges.of(3, "TOKENS, each as long as can be", this::asLongAsCanBe);
        edges.of(3, "blanks (10, 32) between where one likes", this::blanks);
        edges.of(3, "WORDS (letters a .. z, 8 at most)", this::words);
        edges.of(3, "NUMBERS (1 to 4 digits; a letter may stand right behind)", this::numbers);
        edges.of(3, "the signs ( ) < = + - * ;", this::signs);
        edges.of(3, "All else (a longer WORD or NUMBER, too, at its first sign) is none.", this::allElse);
    }

    private void upToThe512thCall() {
        HalfMast x = new HalfMast();
        Check.feed(x, "person a plain lacks 60;");
        edges.due("the 2nd call", x.town(), 0);
        Edges.times(508, x::day);
        edges.due("the 511th call", x.count(4), 508);
        edges.due("the 512th call", x.high(), 40);
        HalfMast y = new HalfMast();
        Edges.times(511, y::day);
        edges.due("the 512th call, an undo", y.undo(), true);
        HalfMast z = new HalfMast();
        for (int i = 1; i <= 512; i++) {
            edges.due("call " + i + ", a feed", z.feed(0, 0x61, 0), i);
        }
    }

    private void nothingIsThere() {
        HalfMast x = new HalfMast();
        edges.dueCounts("a new object", x, 0, 40, 6, 0, 0, 0, 0, 0, 0, 0, 0, 0, 0);
        edges.due("high", x.high(), 40);
        edges.due("even", x.even(), 6);
        edges.due("undo", x.undo(), false);
        for (int mark = 0; mark < 4; mark++) {
            edges.due("mark", x.mark(mark, true), false);
        }
        for (int i = 0; i < 6; i++) {
            edges.due("person", x.person(i, 0), -2);
        }
        int[] zero = {x.judged(1), x.moves(60), x.settled(), x.lowest(), x.spared(40), x.least(40, 0), x.ways(0), x.ways(1),
            x.groups(), x.deaf(), x.alike(), x.worse(), x.mean(), x.rises(60), x.range(60), x.sill(40), x.years(9, 9, 0),
            x.years(9, 9, 2), x.rules(2)};
        int[] none = {x.judged(0), x.heavy(), x.pair(), x.turn(), x.look(), x.ways(2), x.ways(3), x.blame(0), x.least(40, 1),
            x.spared(41), x.sill(39), x.reach(0), x.hearts(0), x.faith(0), x.cost(0), x.through(0, 0), x.chance(0, 1, 1, 1),
            x.spare(0), x.lose(0, 1), x.get(0, 1)};
        for (int i = 0; i < zero.length; i++) {
            edges.due("0, the answer " + i, zero[i], 0);
        }
        for (int i = 0; i < none.length; i++) {
            edges.due("NONE, the answer " + i, none[i], HalfMast.NONE);
        }
        edges.due("an empty TAPE is a TOWN", x.town(), 0);
        edges.due("an empty TAPE is a YEAR", x.year(), 0);
        edges.dueCounts("as before", x, 0, 40, 6, 0, 0, 0, 0, 0, 0, 0, 0, 0, 0);
    }

    private void nothingOfAnotherObject() {
        HalfMast x = Busy.FULL.made();
        HalfMast y = new HalfMast();
        edges.dueCounts("beside a full one", y, 0, 40, 6, 0, 0, 0, 0, 0, 0, 0, 0, 0, 0);
        Check.town(y, "person a plain lacks 1;mast 9;");
        edges.due("the full one keeps its persons", x.count(0), 6);
        edges.due("the full one keeps its mast", x.count(1), 99);
    }

    private void upTo24Signs() {
        HalfMast x = new HalfMast();
        edges.due("none", x.feed(0, 0, 0), 0);
        edges.due("one", x.feed(0, 0, 0x61), 1);
        edges.due("23", x.feed(BLANKS, BLANKS, BLANKS >>> 8), 24);
        edges.due("24", x.feed(BLANKS, BLANKS, BLANKS), 48);
        edges.due("8, of a alone", x.feed(BLANKS, 0, 0), 56);
        edges.due("8, of b alone", x.feed(0, BLANKS, 0), 64);
        edges.due("8, of c alone", x.feed(0, 0, BLANKS), 72);
        edges.due("they came behind", x.town(), Check.fault(1, 0));
    }

    private void theHighestFirst() {
        HalfMast x = new HalfMast();
        byte[] bytes = "person a plain lacks 59;".getBytes(StandardCharsets.US_ASCII);
        x.feed(Check.packed(bytes, 0), Check.packed(bytes, 8), Check.packed(bytes, 16));
        edges.due("24 signs in their order", x.town(), 0);
        edges.due("59", x.person(0, 1), 59);
        x.feed(0x6d61, 0x7374, 0x373bL << 48);
        edges.due("mast7; with gaps", x.town(), 0);
        edges.due("7", x.count(1), 7);
        x.feed(0x80ff6d617374007fL, 0x38090b1f3b000000L, -1L);
        edges.due("mast8; with others among them", x.town(), 0);
        edges.due("8", x.count(1), 8);
    }

    private void everyByte() {
        for (int sign = 0; sign < 256; sign++) {
            HalfMast x = new HalfMast();
            int due = sign == 10 || sign >= 32 && sign <= 126 ? 1 : 0;
            for (int place = 0; place < 24; place++) {
                long bits = (long) sign << 56 - 8 * (place % 8);
                int many = x.feed(place / 8 == 0 ? bits : 0, place / 8 == 1 ? bits : 0, place / 8 == 2 ? bits : 0);
                edges.due("sign " + sign + " at " + place, many, due * (place + 1));
            }
        }
        for (Busy busy : Busy.values()) {
            int due = busy == Busy.FULL ? 1000 : 0;
            edges.refusedIn(busy, "feed others", x -> x.feed(0x000108090b0c0d1fL, 0x1c1d1e1f7f808182L, -1L), due);
        }
        edges.refusedIn(Busy.FULL, "feed behind 1,000", x -> x.feed(BLANKS, BLANKS, 0x3b), 1000);
    }

    private static HalfMast filled(int signs) {
        HalfMast x = new HalfMast();
        Check.feed(x, " ".repeat(signs));
        return x;
    }

    private void atMost1000() {
        edges.due("999", filled(999).count(12), 999);
        edges.due("1,000", filled(1000).count(12), 1000);
        edges.due("1,001", filled(1001).count(12), 1000);
        edges.due("1 behind 999", filled(999).feed(0x61, 0, 0), 1000);
        edges.due("2 behind 999", filled(999).feed(0x61, 0, 0x61), 1000);
        edges.due("1 behind 1,000", filled(1000).feed(0x61, 0, 0), 1000);
        edges.due("24 behind 976", filled(976).feed(BLANKS, BLANKS, BLANKS), 1000);
        edges.due("24 behind 977", filled(977).feed(BLANKS, BLANKS, BLANKS), 1000);
        HalfMast x = filled(999);
        edges.due("what is left out takes no room", x.feed(0x00ff7f091f0b8061L, 0, 0), 1000);
        edges.due("the 1,000th sign is a", x.town(), Check.fault(1, 999));
        edges.due("a TOWN that ends with the 1,000th sign", Check.town(filled(0), " ".repeat(993) + "mast 5;"), 0);
        edges.due("its ; is the 1,001st", Check.town(filled(0), " ".repeat(994) + "mast 5;"), Check.fault(1, 1000));
        x = filled(992);
        edges.due("of 24 the first 8", x.feed(0x6d61737420353b20L, 0x7878787878787878L, 0x7878787878787878L), 1000);
        edges.due("mast 5;", x.town(), 0);
        edges.due("5", x.count(1), 5);
        edges.due("a full TAPE of blanks is a TOWN", filled(1000).town(), 0);
        edges.due("a full TAPE of blanks is a YEAR", filled(1000).year(), 0);
    }

    private void howManyThereAre() {
        HalfMast x = new HalfMast();
        edges.due("5", x.feed(0x6d61737420L, 0, 0), 5);
        edges.due("0 more", x.feed(0, -1, 0), 5);
        edges.due("3 more", x.feed(0x353b, 0, 0x20), 8);
        edges.due("as count tells", x.count(12), 8);
        x.town();
        edges.due("from 0 again", x.feed(0x20, 0, 0), 1);
    }

    private void itIsEmptyThen() {
        HalfMast x = Busy.SOME.made();
        Check.feed(x, "person");
        edges.due("a FAULT", x.town(), Check.fault(1, 6));
        edges.due("takes it", x.count(12), 0);
        edges.due("the town stays", x.count(0), 3);
        Check.feed(x, "day");
        edges.due("a FAULT of a YEAR", x.year(), Check.fault(1, 3));
        edges.due("takes it", x.count(12), 0);
        Check.feed(x, "day;day;");
        edges.due("a YEAR", x.year(), 0);
        edges.due("takes it", x.count(12), 0);
        edges.due("two lines", x.count(8), 2);
        edges.due("an empty one is a YEAR", x.year(), 0);
        edges.due("without a line", x.count(8), 0);
        Check.feed(x, "mast 9;");
        edges.due("a TOWN", x.town(), 0);
        edges.due("takes it", x.count(12), 0);
        edges.due("mast 9", x.count(1), 9);
        edges.due("an empty one is a TOWN", x.town(), 0);
        edges.due("as at first", x.count(1), 40);
        Check.feed(x, "mast ");
        x.day();
        x.undo();
        x.mark(1, false);
        x.mark(1, true);
        edges.due("nothing else takes it", x.count(12), 5);
        edges.due("read in two goes", Check.town(x, "8;"), 0);
        edges.due("mast 8", x.count(1), 8);
    }

    private void asLongAsCanBe() {
        edges.due("a word ends where a digit is", edges.town("mast5;").count(1), 5);
        edges.due("a number ends where a letter is", edges.one(40, 30, "3and 1").later(1), 9);
        edges.townFault(1, "|mastt 5;");
        edges.townFault(1, "|mas t 5;");
        edges.townFault(1, "mast 5;|masts 5;");
        edges.townFault(1, "fares |notgone;");
        edges.townFault(1, "fares 1 |andgone;");
        edges.townFault(4, "mast |100;");
        edges.townFault(1, "mast 10 |0;");
        edges.townFault(1, "fares 1|oror 1;");
    }

    private void blanks() {
        edges.due("none where none need be", edges.town("person a plain lacks1;mast9;fares(gone<1)+1;").count(1), 9);
        edges.due("many", edges.town(" \n  mast \n\n 9 \n ; \n").count(1), 9);
        edges.due("only blanks", edges.town(" \n \n").count(0), 0);
        edges.due("each where it can be",
                edges.town("\nperson\na\nplain\nlacks\n1\n;\nfares\n(\ngone\n<\n1\n)\n*\n2\n;\n").count(0), 1);
        edges.townFault(1, "|m ast 9;");
        edges.townFault(1, "mast 9 |9;");
        edges.townFault(1, "mast\n9\n|9;");
    }

    private void words() {
        for (String name : new String[] {"a", "z", "az", "abcdefg", "zzzzzzzz", "aaaaaaaa", "bcdefghi"}) {
            edges.due("a NAME of " + name.length(), edges.town("person " + name + " plain lacks 1;").count(0), 1);
        }
        edges.townFault(1, "person |abcdefghi plain lacks 1;");
        edges.townFault(1, "person |" + "a".repeat(900) + " plain lacks 1;");
        edges.townFault(1, "|personperson a plain lacks 1;");
        for (char sign : new char[] {'`', '{', 'A', 'Z', '@', '[', '_'}) {
            edges.townFault(1, "person |" + sign + " plain lacks 1;");
            edges.townFault(1, "person a|" + sign + " plain lacks 1;");
            edges.townFault(1, "person |" + sign + "a plain lacks 1;");
        }
        edges.townFault(1, "|Person a plain lacks 1;");
        edges.townFault(1, "person a |plaiN lacks 1;");
        edges.townFault(3, "person abcdefgh plain lacks 1;person |abcdefgh plain lacks 1;");
        edges.due("the 8th letter counts",
                edges.town("person abcdefgh plain lacks 1;person abcdefgi plain lacks 2;person abcdefg plain lacks 3;").count(0), 3);
    }

    private void numbers() {
        edges.due("1 digit", edges.town("mast 7;").count(1), 7);
        edges.due("2 digits", edges.town("mast 07;").count(1), 7);
        edges.due("3 digits", edges.town("mast 007;").count(1), 7);
        edges.due("4 digits", edges.town("mast 0007;").count(1), 7);
        edges.townFault(1, "mast |00007;");
        edges.townFault(1, "mast |12345;");
        edges.townFault(1, "mast |" + "0".repeat(900) + "7;");
        edges.townFault(1, "mast |4294967303;");
        edges.townFault(4, "mast |9999;");
        edges.due("4 digits in a law", edges.one(40, 30, "9999 = 9999").later(1), 9);
        edges.townFault(1, "fares |10000;");
        edges.townFault(1, "fares 1 + |10000;");
        for (char sign : new char[] {'/', ':', '.', ',', '\''}) {
            edges.townFault(1, "mast |" + sign + ";");
            edges.townFault(1, "mast 5|" + sign + ";");
        }
        edges.due("a letter right behind", edges.one(40, 30, "0or 1").later(1), 9);
        edges.due("a letter right behind 4 digits", edges.one(40, 30, "0000or 1").later(1), 9);
        edges.townFault(1, "mast 5|x;");
        edges.townFault(1, "mast 0005|abcdefghi;");
        edges.townFault(1, "mast |00005x;");
    }

    private void signs() {
        for (char sign = 33; sign < 127; sign++) {
            boolean part = sign >= 'a' && sign <= 'z' || sign >= '0' && sign <= '9';
            if (!part && "<=+-*;".indexOf(sign) < 0) {
                edges.townFault(1, "fares 1 |" + sign + " 1;");
            }
            if (sign != ';' && !part) {
                edges.townFault(1, "mast 5|" + sign);
            }
        }
        for (String law : new String[] {"(1)", "1<1", "1=1", "1+1", "1-1", "1*1"}) {
            edges.due("fares " + law, edges.one(40, 0, law).count(0), 1);
        }
        for (char sign : SIGNS.toCharArray()) {
            edges.townFault(1, "|" + sign);
            edges.townFault(1, "mast 5;|" + sign);
        }
        edges.townFault(1, "fares 1 <|= 1;");
        edges.townFault(1, "fares 1 +|+ 1;");
        edges.townFault(1, "mast 5;|;");
    }

    private void allElse() {
        edges.townFault(1, "|abcdefghi");
        edges.townFault(1, "|12345");
        edges.townFault(1, "|~");
        edges.townFault(1, " |~~~");
        edges.townFault(1, "mast 5;\n\n|personsss a");
        edges.townFault(1, "fares gone + |abcdefghi;");
        edges.yearFault(1, "|daydaydayday;");
        edges.yearFault(1, "lose ann |00001;");
        edges.yearFault(1, "lose |annannann 1;");
        edges.yearFault(1, "day|!");
    }
}
