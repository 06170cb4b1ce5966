/** Promises 3 and 11: boundary cases of E, how it is told and what comes of it. */
final class EdgesOfLaws {
    private final Edges edges;

    EdgesOfLaws(Edges edges) {
        this.edges = edges;
    }

    void all() {
        edges.of(3, "no PART lies within 5 of not and ( )", this::fourAround);
        edges.of(3, "not, or a PART, within 5 others", this::fiveAround);
        edges.of(3, "( E ); no PART lies within 5", this::comingOutAgain);
        edges.of(3, "TEST: SUM, or SUM < SUM, or SUM = SUM", this::oneComparison);
        edges.of(3, "E: TEST { and TEST or or TEST }, from the left", this::fromTheLeft);
        edges.of(3, "SUM: PRODUCT { + or - PRODUCT }; PRODUCT: PART { * PART }", this::sumsAndProducts);
        edges.of(3, "PART: a NUMBER, a fact, not PART, ( E )", this::parts);
        edges.of(11, "no PART lies within 5 of not and ( )", this::theDeepest);
        edges.of(11, "The TAPE has at most 1,000 signs", this::theLongest);
        edges.of(11, "Of not, and, or, < and = comes 1 or 0", this::oneOrNought);
        edges.of(11, "what is not 0 is so", this::whatIsNotNought);
        edges.of(11, "ints wrap.", this::wrapping);
        edges.of(11, "Without fares: felt - 1.", this::withoutFares);
        edges.of(11, "felt (how many of those whom he feels lack more than he does)", this::felt);
        edges.of(11, "Facts: gone (what he lacks), high (how high the flag is)", this::goneAndHigh);
        edges.of(11, "date (the day's number)", this::date);
    }

    /** What a law tells of one who lacks 30, of -9 to 9. */
    private int told(String law) {
        HalfMast x = edges.one(99, 30, law);
        x.day();
        return x.person(0, 1) - 30;
    }

    private void dueLaw(String law, int due) {
        edges.due("fares " + law, told(law), due);
    }

    /** As many of not and ( as there are bits, the highest first: 1 for not. */
    private static String before(int bits, int many) {
        StringBuilder text = new StringBuilder();
        for (int i = many - 1; i >= 0; i--) {
            text.append((bits >> i & 1) == 1 ? "not " : "(");
        }
        return text.toString();
    }

    private static String behind(int bits, int many) {
        return ")".repeat(many - Integer.bitCount(bits));
    }

    private void fourAround() {
        for (int many = 0; many <= 4; many++) {
            for (int bits = 0; bits < 1 << many; bits++) {
                int nots = Integer.bitCount(bits);
                dueLaw(before(bits, many) + "7" + behind(bits, many), nots == 0 ? 7 : nots % 2 == 1 ? 0 : 1);
                dueLaw(before(bits, many) + "date" + behind(bits, many), nots % 2);
            }
        }
    }

    private void fiveAround() {
        for (int bits = 0; bits < 32; bits++) {
            for (String part : new String[] {"1", "gone", "not 1", "(1)", "9999", "date", "not", "("}) {
                edges.townFault(5, "fares " + before(bits, 5) + "|" + part + behind(bits, 5) + ";");
            }
            for (String wrong : new String[] {";", "", "and", "lacks", "ann", "12345", "?", "*", "<"}) {
                edges.townFault(1, "fares " + before(bits, 5) + "|" + wrong + ";");
            }
        }
        edges.townFault(1, "fares (((((|)))));");
        edges.townFault(5, "fares not not not not not |not not 1;");
        edges.townFault(5, "fares (((((|(((1))))))));");
        edges.townFault(5, "fares 1 + ((((1 * (|2)))));");
        edges.townFault(5, "fares ((((1 + not |date))));");
        edges.townFault(5, "fares 1 and 2 < 3 + not ((((|4))));");
    }

    /** At each of the five levels four values wait for the next one: by and, by <, by + and by *. */
    private void theDeepest() {
        for (int last = 0; last <= 1; last++) {
            dueLaw("1 and 3 < 2 + 2 * (".repeat(4) + "1 and 3 < 2 + 2 * " + last + "))))", last);
            dueLaw("0 or 5 = 3 + 2 * (".repeat(4) + "0 or 5 = 3 + 2 * " + last + "))))", last);
        }
    }

    /** As many steps as there is room for. */
    private void theLongest() {
        String before = "person a plain lacks 30;weighs 1;mast 99;fares ";
        for (String step : new String[] {"+1", "-1", "*1", " or 1", " and 1"}) {
            int room = 1000 - before.length() - 2;
            String law = "1" + step.repeat(room / step.length());
            HalfMast x = edges.town(before + law + " ".repeat(room + 1 - law.length()) + ";");
            x.day();
            int due = step.equals("+1") ? 9 : step.equals("-1") ? -9 : 1;
            edges.due("fares 1" + step + " and so on", x.person(0, 1), 30 + due);
        }
        HalfMast y = new HalfMast();
        for (int i = 0; i < 4; i++) {
            edges.due("a long one", Check.town(y, before + "not (9-9);"), 0);
            edges.due("a short one", Check.town(y, before + "9-9;"), 0);
            edges.due("goes by itself", y.later(60), 69);
            edges.due("so that each has a turn", y.town(), 0);
        }
        HalfMast x = edges.town(before + "1" + "+1-1".repeat((1000 - before.length() - 5) / 4) + "+3;");
        x.day();
        edges.due("the last step counts", x.person(0, 1), 34);
    }

    private void comingOutAgain() {
        dueLaw("((((1)))) + ((((2)))) * not not not not 3", 3);
        dueLaw("(((1) + ((2)) * (3)))", 7);
        dueLaw("(((not 0 + 1) + 1) + 1) + not 0", 5);
        dueLaw("not not not not 1 + not not not not 1 + ((((1))))", 3);
        edges.townFault(5, "fares ((((1)))) + (((((|1)))));");
        edges.townFault(5, "fares ((((1) + 1) + 1) + 1) + not (((((|1)))));".replace("not (((((|", "not ((((|").replace("1)))));", "1))));"));
        edges.townFault(1, "fares (1 |;");
        edges.townFault(1, "fares ((1) |;");
        edges.townFault(1, "fares (1) |);");
        edges.townFault(1, "fares ((((1)))) |);");
        edges.townFault(1, "fares (|);");
        edges.townFault(1, "fares ((((1)))|;");
        edges.townFault(1, "fares |);");
    }

    private void oneComparison() {
        dueLaw("2 < 3", 1);
        dueLaw("3 < 3", 0);
        dueLaw("4 < 3", 0);
        dueLaw("3 = 3", 1);
        dueLaw("3 = 4", 0);
        dueLaw("(1 < 2) < 2", 1);
        dueLaw("3 = (1 = 1) + 2", 1);
        edges.townFault(1, "fares 1 < 2 |< 3;");
        edges.townFault(1, "fares 1 < 2 |= 3;");
        edges.townFault(1, "fares 1 = 2 |< 3;");
        edges.townFault(1, "fares 1 = 2 |= 3;");
        edges.townFault(1, "fares (1 < 2 |< 3);");
        edges.townFault(1, "fares |< 2;");
        edges.townFault(1, "fares 1 < |;");
        edges.townFault(1, "fares 1 = |= 1;");
    }

    private void fromTheLeft() {
        dueLaw("1 or 1 and 0", 0);
        dueLaw("0 and 0 or 1", 1);
        dueLaw("1 or 0 and 0 or 1", 1);
        dueLaw("1 or 1 and 0 or 0", 0);
        dueLaw("1 and 1 < 2 or 0", 1);
        edges.townFault(1, "fares |and 1;");
        edges.townFault(1, "fares 1 and |;");
        edges.townFault(1, "fares 1 or |and 1;");
        edges.townFault(1, "fares 1 |not 1;");
    }

    private void sumsAndProducts() {
        dueLaw("9 - 4 - 3", 2);
        dueLaw("9 - 4 + 3", 8);
        dueLaw("9 - 2 * 4", 1);
        dueLaw("1 * 2 * 3", 6);
        dueLaw("1 + 1 + 1 + 1 + 1 + 1 + 1 + 1", 8);
        dueLaw("not 0 * 5", 5);
        dueLaw("not 0 + 5", 6);
        edges.townFault(1, "fares |+ 1;");
        edges.townFault(1, "fares |- 1;");
        edges.townFault(1, "fares |* 1;");
        edges.townFault(1, "fares 1 + |;");
        edges.townFault(1, "fares 1 - |- 1;");
        edges.townFault(1, "fares 1 * |* 1;");
    }

    private void parts() {
        for (String part : new String[] {"0", "9999", "gone", "high", "felt", "date", "not 1", "(1)"}) {
            edges.due("fares " + part, edges.one(99, 30, part).count(0), 1);
        }
        for (String wrong : new String[] {"", ";", "lacks", "a", "plain", "mast", "day", "feel", "person", "gon", "dates", "12345"}) {
            edges.townFault(1, "person a plain lacks 1;fares |" + wrong + ";");
            edges.townFault(1, "person a plain lacks 1;fares 1 + |" + wrong + ";");
            edges.townFault(1, "person a plain lacks 1;fares not |" + wrong + ";");
        }
        // A person whose name is that of a fact is none in a law.
        HalfMast x = edges.town("person gone plain lacks 30;weighs 1;fares gone - 28;");
        x.day();
        edges.due("the fact", x.person(0, 1), 32);
    }

    private void oneOrNought() {
        dueLaw("not 0", 1);
        dueLaw("not 1", 0);
        dueLaw("not 9", 0);
        dueLaw("not not 9", 1);
        dueLaw("5 and 7", 1);
        dueLaw("5 or 7", 1);
        dueLaw("0 or 7", 1);
        dueLaw("0 or 0", 0);
        dueLaw("(5 and 7) + (5 or 0) + (4 < 9) + (8 = 8) + not 0", 5);
    }

    private void whatIsNotNought() {
        dueLaw("not (0 - 1)", 0);
        dueLaw("(0 - 1) and (0 - 9999)", 1);
        dueLaw("0 or 0 - 1", 1);
        dueLaw("0 and 0 - 1", 0);
        dueLaw("not (1 - 1)", 1);
        dueLaw("not (256 * 256 * 256 * 256)", 1);
        dueLaw("not (256 * 256 * 256 * 128)", 0);
        dueLaw("256 * 256 * 256 * 256 or 0", 0);
    }

    private void wrapping() {
        String least = "256 * 256 * 256 * 128";
        dueLaw(least, -9);
        dueLaw(least + " - 1", 9);
        dueLaw(least + " - 1 + 1", -9);
        dueLaw(least + " < 0", 1);
        dueLaw(least + " - 1 < 0", 0);
        dueLaw("0 - " + least, -9);
        dueLaw("0 - " + least + " = " + least, 1);
        dueLaw(least + " * 2", 0);
        dueLaw("256 * 256 * 256 * 127", 9);
        dueLaw("256 * 256 * 256 * 255", -9);
        dueLaw("256 * 256 * 256 * 256 + 4", 4);
        dueLaw("256 * 256 * 256 * 256 - 4", -4);
        // 999700029999 wraps to -1027349969.
        dueLaw("9999 * 9999 * 9999", -9);
        dueLaw("9999 * 9999 * 9999 + 1027 * 1000 * 1000 + 349 * 1000 + 969 + 5", 5);
    }

    private void withoutFares() {
        // Who feels 0, 1, 2 and 5 that lack more.
        HalfMast x = edges.town(Edges.persons("plain", 10, 10, 10, 20, 20, 20)
                + "feels b d;feels c d;feels c e;feels a b;feels d e;");
        x.day();
        int[] due = {9, 10, 11, 19, 19, 19};
        for (int i = 0; i < 6; i++) {
            edges.due("person " + i, x.person(i, 1), due[i]);
        }
        x = edges.town(Edges.persons("plain", 0, 1, 1, 1, 1, 1) + "feels a b;feels a c;feels a d;feels a e;feels a f;");
        x.day();
        edges.due("five, so 4 more", x.person(0, 1), 4);
        edges.due("none", x.person(5, 1), 0);
        x.day();
        edges.due("none any more", x.person(0, 1), 3);
        edges.due("at 0 at least", x.person(5, 1), 0);
    }

    private void felt() {
        HalfMast x = edges.town(Edges.persons("plain", 10, 9, 10, 11, 60, 0)
                + "feels a b;feels a c;feels a d;feels a e;feels a f;feels f a;feels f b;feels f c;feels f d;feels f e;fares felt;");
        x.day();
        edges.due("of one less, alike, one more, 60 and 0: two", x.person(0, 1), 12);
        edges.due("nobody is felt", x.person(1, 1), 9);
        edges.due("all five", x.person(5, 1), 5);
        x = edges.town(Edges.persons("plain", 10, 20) + "feels a b;fares felt;");
        x.feel(0, 1);
        x.day();
        edges.due("felt no more", x.person(0, 1), 10);
        x.feel(0, 1);
        x.day();
        edges.due("felt again", x.person(0, 1), 11);
        x = edges.town("person a widow lacks 10;person b child lacks 11;feels a b;feels b a;fares felt;");
        x.day();
        edges.due("by what they lack, not what they weigh", x.person(0, 1), 11);
        edges.due("by what they lack, not what they weigh", x.person(1, 1), 11);
    }

    private void goneAndHigh() {
        edges.due("gone, 0", edges.one(99, 0, "gone").later(60), 99);
        edges.due("gone, 1", edges.one(99, 1, "gone").later(1), 97);
        edges.due("gone, 60", edges.one(99, 60, "gone = 60").settled(), 0);
        edges.due("gone, 59", edges.one(99, 59, "not (gone = 60)").settled(), 1);
        HalfMast x = edges.town("person a plain lacks 0;mast 99;fares high = 99;");
        x.day();
        edges.due("high, at the mast", x.person(0, 1), 1);
        x = edges.town("person a plain lacks 5;mast 1;weighs 1;fares high = 0;");
        x.day();
        edges.due("high, at the ground", x.person(0, 1), 6);
        x = edges.town("person a plain lacks 5;mast 6;weighs 1;fares high * 4;");
        x.day();
        edges.due("high, 1", x.person(0, 1), 9);
        x.day();
        edges.due("high, 0", x.person(0, 1), 9);
    }

    private void date() {
        HalfMast x = edges.one(99, 0, "date");
        int[] due = {0, 1, 3, 6, 10, 15, 21, 28, 36, 45, 54, 60, 60};
        for (int i = 0; i < due.length; i++) {
            x.day();
            edges.due("behind DAY " + (i + 1), x.person(0, 1), due[i]);
        }
        edges.due("the next day", x.count(4), 13);
        x.undo();
        edges.due("a day ahead", x.count(4), 12);
        edges.due("from then on", edges.one(99, 0, "date = 60").later(60), 99);
    }
}
