import java.nio.charset.StandardCharsets;
import java.util.NoSuchElementException;

/** What the tests share: telling texts, comparing answers, ending with exit code 1 if one was wrong. */
final class Check {
    /** Stands for the NoSuchElementException of rests, which has no such answer. */
    static final int THROWN = -777;

    private final String name;
    private int asked;
    private int wrong;

    Check(String name) {
        this.name = name;
    }

    void due(String call, long got, long want) {
        asked++;
        if (got != want) {
            wrong++;
            System.out.println(name + ": " + call + " answered " + got + ", due is " + want);
        }
    }

    void due(String call, boolean got, boolean want) {
        due(call, got ? 1 : 0, want ? 1 : 0);
    }

    void finish() {
        System.out.println(name + ": " + asked + " answers, " + wrong + " wrong");
        if (wrong > 0 || asked == 0) {
            System.exit(1);
        }
    }

    /** Feeds a text by 24 signs a call. */
    static void feed(HalfMast x, String text) {
        byte[] bytes = text.getBytes(StandardCharsets.ISO_8859_1);
        for (int i = 0; i < bytes.length; i += 24) {
            x.feed(packed(bytes, i), packed(bytes, i + 8), packed(bytes, i + 16));
        }
    }

    static long packed(byte[] bytes, int from) {
        long packed = 0;
        for (int i = from; i < from + 8; i++) {
            packed = packed << 8 | (i < bytes.length ? bytes[i] & 255 : 0);
        }
        return packed;
    }

    static int town(HalfMast x, String text) {
        feed(x, text);
        return x.town();
    }

    static int year(HalfMast x, String text) {
        feed(x, text);
        return x.year();
    }

    /** A new object with a town told; a fault here is a fault of the test. */
    static HalfMast in(String text) {
        HalfMast x = new HalfMast();
        int fault = town(x, text);
        if (fault != 0) {
            System.out.println("the test's town has fault " + fault + ": " + text);
            System.exit(1);
        }
        return x;
    }

    static int fault(int kind, int place) {
        return kind + 16 * place;
    }

    static int rests(HalfMast x, int both, int loses, int gets, int what) {
        try {
            return x.rests(both, loses, gets, what);
        } catch (NoSuchElementException none) {
            return THROWN;
        }
    }
}
