import java.io.IOException;
import java.nio.charset.StandardCharsets;
import java.nio.file.Files;
import java.nio.file.Path;
import java.util.function.Supplier;

/** What the tests share: telling texts to a street, and noting each answer that is not the one due. */
final class Check {
    /** A call that may throw. */
    interface Call {
        long answer();
    }

    private static int wrong = 0;
    private static int asked = 0;
    private static String part = "";
    private static String document = "";

    private Check() {
    }

    static void part(String name) {
        part = name;
    }

    /** What follows tests this sentence of the document's terms. */
    static void sentence(String words) {
        quote(words, words, "## Terms", "## Promise 1:");
    }

    /** What follows tests this sentence of a promise. */
    static void promise(int number, String words) {
        String until = number == 44 ? "## Not promised" : "## Promise " + (number + 1) + ":";
        quote("promise " + number + ", " + words, words, "## Promise " + number + ":", until);
    }

    private static void quote(String name, String words, String from, String until) {
        part(name);
        asked++;
        int begin = document().indexOf(from);
        int end = document().indexOf(until);
        if (begin < 0 || end < begin || !document().substring(begin, end).contains(words)) {
            note("the document does not say that");
        }
    }

    /** The document, each row of blanks and line ends in it as one blank. */
    static String document() {
        if (document.isEmpty()) {
            try {
                document = Files.readString(Path.of("../shared/DOC.md")).replaceAll("\\s+", " ");
            } catch (IOException e) {
                note("the document cannot be read: " + e);
            }
        }
        return document;
    }

    static void due(String what, long got, long want) {
        asked++;
        if (got != want) {
            note(what + " answered " + got + ", due is " + want);
        }
    }

    static void due(String what, boolean got, boolean want) {
        due(what, got ? 1 : 0, want ? 1 : 0);
    }

    static void yes(String what, boolean got) {
        due(what, got, true);
    }

    static void same(String what, String got, String want) {
        asked++;
        if (!got.equals(want)) {
            int at = 0;
            while (at < got.length() && at < want.length() && got.charAt(at) == want.charAt(at)) {
                at++;
            }
            note(what + ": " + around(got, at) + ", due is " + around(want, at));
        }
    }

    private static String around(String text, int at) {
        return text.substring(Math.max(0, at - 30), Math.min(text.length(), at + 10));
    }

    static void note(String text) {
        wrong++;
        System.out.println(part + ": " + text);
    }

    /** The call throws just this class, and by a throw statement of AllSawIt itself. */
    static void refused(String what, Class<? extends RuntimeException> kind, Supplier<?> call) {
        asked++;
        try {
            Object got = call.get();
            note(what + " answered " + got + ", due is " + kind.getSimpleName());
        } catch (RuntimeException e) {
            if (e.getClass() != kind) {
                note(what + " threw " + e + ", due is " + kind.getSimpleName());
            } else if (!byItself(e)) {
                note(what + " threw from outside the class: " + e.getStackTrace()[0]);
            }
        }
    }

    static boolean byItself(RuntimeException e) {
        StackTraceElement[] rows = e.getStackTrace();
        return rows.length == 0 || rows[0].getClassName().startsWith("AllSawIt");
    }

    static void end() {
        System.out.println(asked + " answers, " + wrong + " not as due");
        if (wrong != 0) {
            System.exit(1);
        }
    }

    static int[] numbers(byte[] twenty, int from) {
        int[] five = new int[5];
        for (int i = 0; i < 20; i++) {
            int b = from + i < twenty.length ? twenty[from + i] & 255 : 0;
            five[i / 4] = five[i / 4] << 8 | b;
        }
        return five;
    }

    static void tell(AllSawIt x, byte[] bytes) {
        x.end(0);
        for (int from = 0; from < bytes.length; from += 20) {
            int[] n = numbers(bytes, from);
            x.feed(n[0], n[1], n[2], n[3], n[4]);
        }
        x.end(bytes.length);
    }

    static void tell(AllSawIt x, String text) {
        tell(x, text.getBytes(StandardCharsets.ISO_8859_1));
    }

    static AllSawIt street(String text) {
        AllSawIt x = new AllSawIt();
        tell(x, text);
        x.street();
        return x;
    }

    static AllSawIt street(String text, String law) {
        AllSawIt x = street(text);
        tell(x, law);
        x.law();
        return x;
    }

    static void rows(AllSawIt x, int... bytes) {
        byte[] all = new byte[bytes.length];
        for (int i = 0; i < bytes.length; i++) {
            all[i] = (byte) bytes[i];
        }
        tell(x, all);
    }
}
