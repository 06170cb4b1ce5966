/** Towns for calls to be refused in: each makes the same object every time. */
enum Busy {
    /** Nothing has been told. */
    NEW {
        @Override
        HalfMast made() {
            return new HalfMast();
        }
    },

    /** A bit of everything: three persons, a year, eight deeds to undo, two seen, one measured, marks 0 and 2. */
    SOME {
        @Override
        HalfMast made() {
            HalfMast x = Check.in("person ann plain lacks 12;person bob lover lacks 20;person cid widow lacks 5;feels ann bob;"
                    + "feels bob cid;feels cid ann;mast 50;weighs 5;rounds near;fares felt*3-1;");
            Check.year(x, "lose ann 5;day;feel bob ann;spare cid;get bob 3;");
            x.lose(0, 3);
            x.mark(0, false);
            x.day();
            x.feel(0, 2);
            x.see(2, 36);
            x.measure(1, 39);
            x.mark(2, false);
            x.spare(2);
            x.get(1, 4);
            x.day();
            x.see(0, 36);
            x.lose(2, 7);
            x.feel(2, 1);
            return x;
        }
    },

    /** All that there is room for, a thousand signs on the tape, too. */
    FULL {
        @Override
        HalfMast made() {
            HalfMast x = Check.in(SIX + "mast 99;weighs 20;rounds up;fares felt-date;");
            Check.year(x, "day;lose fay 20;".repeat(20));
            for (int i = 0; i < 8; i++) {
                x.see(i, LOST[i]);
                x.measure(i, STOOD[i]);
            }
            for (int i = 0; i < 10; i++) {
                x.lose(i % 6, i + 2);
                x.feel(i % 6, (i + 2) % 6);
            }
            for (int i = 0; i < 4; i++) {
                x.mark(i, false);
                x.day();
            }
            Check.feed(x, "mast 7;" + " ".repeat(993));
            return x;
        }
    };

    static final String[] NAMES = {"ann", "bob", "cid", "dot", "eva", "fay"};
    /** How high it stands behind 0 to 7 days if cid lost 5, and if nobody did: so that a way and a rule are left. */
    private static final int[] LOST = {88, 89, 91, 93, 95, 96, 97, 98};
    private static final int[] STOOD = {89, 90, 91, 94, 95, 96, 98, 98};
    private static final String SIX = "person ann plain lacks 60;person bob lover lacks 1;person cid widow lacks 33;"
            + "person dot child lacks 9;person eva plain lacks 0;person fay lover lacks 0;feels ann bob;feels bob ann;"
            + "feels cid dot;feels dot eva;feels eva fay;feels fay cid;";

    abstract HalfMast made();
}
