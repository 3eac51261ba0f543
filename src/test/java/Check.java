import java.nio.charset.StandardCharsets;
import java.util.function.Supplier;

/** What the tests share: telling texts to a street, and noting each answer that is not the one due. */
final class Check {
    /** A call that may throw. */
    interface Call {
        long answer();
    }

    private static int wrong = 0;
    private static int asked = 0;
    private static String part = "";

    private Check() {
    }

    static void part(String name) {
        part = name;
    }

    static void due(String what, long got, long want) {
        asked++;
        if (got != want) {
            note(what + " answered " + got + ", due is " + want);
        }
    }

    static void due(String what, boolean got, boolean want) {
        due(what, got ? 1 : 0, want ? 1 : 0);
    }

    static void yes(String what, boolean got) {
        due(what, got, true);
    }

    static void note(String text) {
        wrong++;
        System.out.println(part + ": " + text);
    }

    /** The call throws just this class, and by a throw statement of AllSawIt itself. */
    static void refused(String what, Class<? extends RuntimeException> kind, Supplier<?> call) {
        asked++;
        try {
            Object got = call.get();
            note(what + " answered " + got + ", due is " + kind.getSimpleName());
        } catch (RuntimeException e) {
            if (e.getClass() != kind) {
                note(what + " threw " + e + ", due is " + kind.getSimpleName());
            } else if (!byItself(e)) {
                note(what + " threw from outside the class: " + e.getStackTrace()[0]);
            }
        }
    }

    static boolean byItself(RuntimeException e) {
        StackTraceElement[] rows = e.getStackTrace();
        return rows.length == 0 || rows[0].getClassName().startsWith("AllSawIt");
    }

    static void end() {
        System.out.println(asked + " answers, " + wrong + " not as due");
        if (wrong != 0) {
            System.exit(1);
        }
    }

    static int[] numbers(byte[] twenty, int from) {
        int[] five = new int[5];
        for (int i = 0; i < 20; i++) {
            int b = from + i < twenty.length ? twenty[from + i] & 255 : 0;
            five[i / 4] = five[i / 4] << 8 | b;
        }
        return five;
    }

    static void tell(AllSawIt x, byte[] bytes) {
        x.end(0);
        for (int from = 0; from < bytes.length; from += 20) {
            int[] n = numbers(bytes, from);
            x.feed(n[0], n[1], n[2], n[3], n[4]);
        }
        x.end(bytes.length);
    }

    static void tell(AllSawIt x, String text) {
        tell(x, text.getBytes(StandardCharsets.ISO_8859_1));
    }

    static AllSawIt street(String text) {
        AllSawIt x = new AllSawIt();
        tell(x, text);
        x.street();
        return x;
    }

    static AllSawIt street(String text, String law) {
        AllSawIt x = street(text);
        tell(x, law);
        x.law();
        return x;
    }

    static void rows(AllSawIt x, int... bytes) {
        byte[] all = new byte[bytes.length];
        for (int i = 0; i < bytes.length; i++) {
            all[i] = (byte) bytes[i];
        }
        tell(x, all);
    }
}
