import java.util.function.LongSupplier;

/** Counts answers that are due and answers that are not, and helps to set a court up. */
final class Check {
    private int passed;
    private int failed;

    void due(String what, long got, long want) {
        if (got == want) {
            passed++;
        } else {
            failed++;
            System.out.println(what + " answered " + got + ", due is " + want);
        }
    }

    /** A refusal: the answer that is due, and nothing is changed. */
    void refused(String what, UnsaidHorse x, LongSupplier call, long want) {
        long before = x.digest();
        due(what, call.getAsLong(), want);
        due(what + " changes nothing", x.digest(), before);
    }

    void end() {
        System.out.println(passed + " passed, " + failed + " failed");
        if (failed != 0) {
            System.exit(1);
        }
    }

    static void type(UnsaidHorse x, String text) {
        for (int place = 0; place < text.length(); place++) {
            x.letter(text.charAt(place));
        }
    }

    static void read(UnsaidHorse x, String text) {
        type(x, text);
        x.court();
    }

    static UnsaidHorse courtOf(String text) {
        UnsaidHorse x = new UnsaidHorse();
        read(x, text);
        return x;
    }
}
