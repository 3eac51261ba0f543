import java.util.function.Function;

/** Texts that are right, and texts that are wrong at a byte, which a ^ ahead of it marks. */
final class Told {
    private static final int INVERSE = inverse(1103515245);

    private Told() {
    }

    private static AllSawIt behind(String... ahead) {
        AllSawIt x = new AllSawIt();
        for (String text : ahead) {
            Check.tell(x, text);
            x.street();
        }
        return x;
    }

    /** Tells the texts, the last of which is asked for; the object it is told to. */
    static AllSawIt rightStreet(String text, String... ahead) {
        AllSawIt x = behind(ahead);
        Check.tell(x, text);
        right("street of " + text, x, AllSawIt::street, ahead.length + 1);
        return x;
    }

    static AllSawIt rightLaw(String text, int lines) {
        AllSawIt x = new AllSawIt();
        Check.tell(x, text);
        right("law of " + text, x, AllSawIt::law, lines);
        return x;
    }

    private static void right(String what, AllSawIt x, Function<AllSawIt, Integer> call, int due) {
        try {
            Check.due(what, call.apply(x), due);
        } catch (IllegalArgumentException e) {
            Check.note(what + " is refused at " + x.fault());
        }
        Check.due(what + ": fault()", x.fault(), -1);
        Check.due(what + ": bytes left on the TAPE", Picture.tape(x), 0);
    }

    static void wrongStreet(String marked, String... ahead) {
        String text = marked.replace("^", "");
        Refusal.usingUp("street of " + text, IllegalArgumentException.class, () -> {
            AllSawIt x = behind(ahead);
            x.days(1);
            Check.tell(x, text);
            return x;
        }, AllSawIt::street, marked.indexOf('^'));
    }

    static void wrongLaw(String marked) {
        String text = marked.replace("^", "");
        Refusal.usingUp("law of " + text, IllegalArgumentException.class, () -> {
            AllSawIt x = Check.street("house 3 sees 2 to 6 up 20 for 6", "see if window;blind if hour > 9");
            x.mirror(0);
            Check.tell(x, text);
            return x;
        }, AllSawIt::law, marked.indexOf('^'));
    }

    /** So many houses that see all in clear air, and so many deeds that hang on none. */
    static AllSawIt watched(int houses, int deeds) {
        AllSawIt x = new AllSawIt();
        if (houses > 0) {
            Check.tell(x, lines("house 12 sees 0 to 23 up 0 for 24", houses));
            x.street();
        }
        if (deeds > 0) {
            Check.tell(x, lines("deed 12 at 0", deeds));
            x.street();
        }
        return x;
    }

    static String lines(String line, int n) {
        return line + (";" + line).repeat(n - 1);
    }

    // ---- seeds that make a told draw ----

    private static int inverse(int odd) {
        int n = 1;
        // Each step doubles the low bits that are right.
        for (int i = 0; i < 6; i++) {
            n *= 2 - odd * n;
        }
        return n;
    }

    /** The SEED from which one DRAW leads to the next one. */
    static int seedAhead(int next) {
        return INVERSE * (next - 12345);
    }

    /** The SEED by which the first DRAW is so. */
    static int seedDrawing(int draw) {
        return seedAhead(draw << 16);
    }

    /** The SEED by which the second DRAW is so. */
    static int seedDrawingSecond(int draw) {
        return seedAhead(seedDrawing(draw));
    }

    /** A DAY of this FOG goes by, if the MISTS let it. */
    static void foggyDay(AllSawIt x, int fog) {
        x.seed(seedDrawing(fog));
        x.days(1);
        Check.due("the FOG of that DAY", x.count(5), fog);
    }
}
