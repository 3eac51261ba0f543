import java.util.function.Function;
import java.util.function.Supplier;

/**
 * Calls that throw: the exception, and that nothing but the TAPE (where it is used up) has changed behind it. A second
 * object, made by the same calls but without the one that throws, tells what must be there: now, and at each act undone,
 * and when one has gone back to the image.
 */
final class Refusal {
    private static final Class<IndexOutOfBoundsException> NO_SUCH = IndexOutOfBoundsException.class;
    private static final Class<IllegalArgumentException> NO_NUMBER = IllegalArgumentException.class;

    private Refusal() {
    }

    /**
     * A street with a law, words, acts that can be undone, an image, a fault and a TAPE. The DEED 0 is SO; the HOUSE 0
     * SAID of the DEED 1; the HOUSE 2 SAW it and is AWAY; nobody SAW the DEED 2.
     */
    static AllSawIt lived() {
        AllSawIt x = Check.street("house 2 sees 0 to 5 up 6 for 12;house 4 sees 3 to 9 up 8 for 10 spite 3;"
                + "house 10 sees 2 to 12 up 20 for 14;deed 4 at 9;deed 5 at 9 hangs 0;deed 20 at 9;mists 4",
                "see if up and window and apart + fog < 13;blind if away");
        x.seed(5);
        x.mirror(1);
        x.days(1);
        x.image();
        x.done(1);
        x.mirror(0);
        x.away(2, true);
        x.say(0, 1);
        x.days(1);
        Check.due("what is SO by then", x.book(false), 1);
        Check.due("who SAID of the next by then", x.deed(1, 4) & 5, 1);
        Check.tell(x, "mists 77");
        try {
            x.street();
            Check.note("mists 77 is taken");
        } catch (IllegalArgumentException e) {
            Check.due("the fault of mists 77", x.fault(), 6);
        }
        Check.tell(x, "mists 9");
        return x;
    }

    /** A call that leaves the TAPE alone. */
    static void due(String what, Class<? extends RuntimeException> kind, Supplier<AllSawIt> made,
            Function<AllSawIt, Object> call) {
        AllSawIt x = made.get();
        AllSawIt twin = made.get();
        Check.refused(what, kind, () -> call.apply(x));
        Check.same(what + " changes nothing", Picture.all(x), Picture.all(twin));
        alike(what, x, twin);
        Check.same(what + " leaves the bytes of the TAPE", useUp(x), useUp(twin));
    }

    /** A call that uses the TAPE up, and with a text tells its first wrong byte (fault). */
    static void usingUp(String what, Class<? extends RuntimeException> kind, Supplier<AllSawIt> made,
            Function<AllSawIt, Object> call, int fault) {
        AllSawIt x = made.get();
        AllSawIt twin = made.get();
        Check.refused(what, kind, () -> call.apply(x));
        Check.due(what + ": bytes left on the TAPE", Picture.tape(x), 0);
        Check.due(what + ": fault()", x.fault(), fault);
        Check.due(what + ": acts", x.count(12), twin.count(12));
        Check.same(what + " changes nothing but the TAPE", Picture.state(x), Picture.state(twin));
        alike(what, x, twin);
    }

    private static String useUp(AllSawIt x) {
        String answer;
        try {
            answer = "street " + x.street();
        } catch (IllegalArgumentException e) {
            answer = "wrong at " + x.fault();
        } catch (UnsupportedOperationException e) {
            answer = "too many";
        }
        return answer + Picture.state(x);
    }

    private static void alike(String what, AllSawIt x, AllSawIt twin) {
        for (int n = 0; n <= 12; n++) {
            boolean undone = twin.undo();
            Check.due(what + ", then undo", x.undo(), undone);
            if (!undone) {
                break;
            }
            Check.same(what + ", then undone", Picture.state(x), Picture.state(twin));
        }
        Check.due(what + ", then back", x.back(), twin.back());
        Check.same(what + ", then gone back", Picture.state(x), Picture.state(twin));
    }

    /** There is no such HOUSE, DEED, PLACE or HOUR. */
    static void noSuch(String what, Function<AllSawIt, Object> call) {
        due(what, NO_SUCH, Refusal::lived, call);
    }

    /** The number is none. */
    static void noNumber(String what, Function<AllSawIt, Object> call) {
        due(what, NO_NUMBER, Refusal::lived, call);
    }

    /** The call answers, whatever it does. */
    static void answered(String what, Function<AllSawIt, Object> call) {
        AllSawIt x = lived();
        try {
            call.apply(x);
            Check.yes(what + " answers", true);
        } catch (RuntimeException e) {
            Check.note(what + " threw " + e);
        }
    }
}
