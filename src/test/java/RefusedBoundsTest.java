import java.util.LinkedHashMap;
import java.util.Map;
import java.util.NoSuchElementException;
import java.util.function.BiFunction;

/** Calls that throw: which exception, at which numbers, and that nothing but the TAPE has changed behind them. */
public final class RefusedBoundsTest {
    private static final Class<IllegalArgumentException> NO_NUMBER = IllegalArgumentException.class;
    private static final Class<IllegalStateException> CANNOT = IllegalStateException.class;
    private static final Class<UnsupportedOperationException> FULL = UnsupportedOperationException.class;
    private static final int[] FAR = {Integer.MIN_VALUE, Integer.MAX_VALUE, 256, -256};

    private RefusedBoundsTest() {
    }

    public static void main(String[] args) {
        houses();
        deeds();
        places();
        hours();
        numbers();
        twoAreOne();
        cannotBe();
        toldFirst();
        nothingChanges();
        sets();
        Check.end();
    }

    /** A call with a number, by its name. */
    private static final class Calls extends LinkedHashMap<String, BiFunction<AllSawIt, Integer, Object>> {
        private static final long serialVersionUID = 1L;

        void are(int least, int most) {
            for (Map.Entry<String, BiFunction<AllSawIt, Integer, Object>> call : entrySet()) {
                Refusal.answered(call.getKey() + " of " + least, x -> call.getValue().apply(x, least));
                Refusal.answered(call.getKey() + " of " + most, x -> call.getValue().apply(x, most));
                for (int odd : new int[] {least - 1, most + 1, FAR[0], FAR[1], FAR[2], FAR[3]}) {
                    Refusal.noSuch(call.getKey() + " of " + odd, x -> call.getValue().apply(x, odd));
                }
            }
        }

        void areNone() {
            for (Map.Entry<String, BiFunction<AllSawIt, Integer, Object>> call : entrySet()) {
                for (int odd : new int[] {0, -1, 1}) {
                    Refusal.due(call.getKey() + " of " + odd + ", as there is none", IndexOutOfBoundsException.class,
                            AllSawIt::new, x -> call.getValue().apply(x, odd));
                }
            }
        }
    }

    private static void houses() {
        Check.sentence("IndexOutOfBoundsException: there is no such HOUSE, DEED, PLACE, HOUR.");
        Calls calls = new Calls();
        calls.put("house", (x, h) -> x.house(h, 0));
        calls.put("share", (x, h) -> x.house(h, 10));
        calls.put("sees", (x, h) -> x.sees(h, 0, 0));
        calls.put("away", (x, h) -> x.away(h, true));
        calls.put("back", (x, h) -> x.away(h, false));
        calls.put("mirror", (x, h) -> x.mirror(h));
        calls.put("up", (x, h) -> x.up(h, 0, 0));
        calls.put("spite", (x, h) -> x.spite(h, 0));
        calls.put("lodger", (x, h) -> x.lodger(h));
        calls.put("led", (x, h) -> x.led(h, false));
        calls.put("led, day", (x, h) -> x.led(h, true));
        calls.are(0, 2);
        calls.areNone();
        Calls others = new Calls();
        others.put("say", (x, h) -> x.say(h, 0));
        others.put("alone", (x, h) -> x.alone(0, h == -1 ? -2 : h));
        for (int odd : new int[] {-1, 3, FAR[0], FAR[1]}) {
            Refusal.noSuch("say of " + odd, x -> others.get("say").apply(x, odd));
            Refusal.noSuch("alone of " + odd, x -> others.get("alone").apply(x, odd));
        }
        others.areNone();
    }

    private static void deeds() {
        Check.sentence("IndexOutOfBoundsException: there is no such HOUSE, DEED, PLACE, HOUR.");
        Calls calls = new Calls();
        calls.put("deed", (x, d) -> x.deed(d, 0));
        calls.put("deed, bribe", (x, d) -> x.deed(d, 8));
        calls.put("soonest", (x, d) -> x.soonest(d, 0));
        calls.are(0, 2);
        calls.areNone();
        Calls others = new Calls();
        others.put("done", (x, d) -> x.done(d));
        others.put("say", (x, d) -> x.say(0, d));
        for (int odd : new int[] {-1, 3, FAR[0], FAR[1]}) {
            Refusal.noSuch("done of " + odd, x -> others.get("done").apply(x, odd));
            Refusal.noSuch("say of " + odd, x -> others.get("say").apply(x, odd));
        }
        others.areNone();
        Refusal.answered("done of the last", x -> x.done(2));
    }

    private static void places() {
        Check.sentence("IndexOutOfBoundsException: there is no such HOUSE, DEED, PLACE, HOUR.");
        Calls calls = new Calls();
        calls.put("sees", (x, p) -> x.sees(0, p, 0));
        calls.put("witnesses", (x, p) -> x.witnesses(p, 0));
        calls.put("wake", (x, p) -> x.wake(p, 0));
        calls.put("mirrors", (x, p) -> x.mirrors(p, 0));
        calls.put("unseen", (x, p) -> x.unseen(p));
        calls.put("thief from", (x, p) -> x.thief(p, 0, 0));
        calls.put("thief to", (x, p) -> x.thief(0, p, 0));
        calls.put("clear", (x, p) -> x.clear(p, 0));
        calls.are(0, 23);
        for (int odd : new int[] {-1, 24}) {
            Refusal.due("clear without HOUSES", IndexOutOfBoundsException.class, AllSawIt::new, x -> x.clear(odd, 0));
            Refusal.due("mirrors without HOUSES", IndexOutOfBoundsException.class, AllSawIt::new, x -> x.mirrors(odd, 0));
        }
    }

    private static void hours() {
        Check.sentence("IndexOutOfBoundsException: there is no such HOUSE, DEED, PLACE, HOUR.");
        Calls calls = new Calls();
        calls.put("sees", (x, t) -> x.sees(0, 0, t));
        calls.put("up", (x, t) -> x.up(0, t, 0));
        calls.put("witnesses", (x, t) -> x.witnesses(0, t));
        calls.put("open", (x, t) -> x.open(t, false));
        calls.put("open, dark", (x, t) -> x.open(t, true));
        calls.put("wake", (x, t) -> x.wake(0, t));
        calls.put("mirrors", (x, t) -> x.mirrors(0, t));
        calls.put("thief", (x, t) -> x.thief(0, 0, t));
        calls.put("clear", (x, t) -> x.clear(0, t));
        calls.put("eyes", (x, t) -> x.eyes(t));
        calls.put("alone", (x, t) -> x.alone(t, -1));
        calls.put("alone, a HOUSE", (x, t) -> x.alone(t, 0));
        calls.are(0, 23);
        for (int odd : new int[] {-1, 24}) {
            Refusal.due("open without HOUSES", IndexOutOfBoundsException.class, AllSawIt::new, x -> x.open(odd, false));
            Refusal.due("eyes without HOUSES", IndexOutOfBoundsException.class, AllSawIt::new, x -> x.eyes(odd));
            Refusal.due("alone without HOUSES", IndexOutOfBoundsException.class, AllSawIt::new, x -> x.alone(odd, -1));
            Refusal.due("clear without HOUSES", IndexOutOfBoundsException.class, AllSawIt::new, x -> x.clear(0, odd));
        }
    }

    private static void number(String what, BiFunction<AllSawIt, Integer, Object> call, int least, int most) {
        Refusal.answered(what + " " + least, x -> call.apply(x, least));
        Refusal.answered(what + " " + most, x -> call.apply(x, most));
        for (int odd : new int[] {least - 1, most + 1, FAR[0], FAR[1], FAR[2], FAR[3]}) {
            Refusal.noNumber(what + " " + odd, x -> call.apply(x, odd));
            if (!what.startsWith("up") && !what.startsWith("spite") && !what.startsWith("soonest")) {
                Refusal.due(what + " " + odd + " without HOUSES", NO_NUMBER, AllSawIt::new, x -> call.apply(x, odd));
            }
        }
    }

    private static void numbers() {
        Check.sentence("IllegalArgumentException: a number is none, or two are one.");
        number("up", (x, n) -> x.up(0, 0, n), 0, 24);
        number("spite", (x, n) -> x.spite(0, n), 0, 9);
        number("days", (x, n) -> x.days(n), 1, 60);
        number("soonest, FOG", (x, n) -> x.soonest(2, n), 0, 9);
        number("soonest of what is SO, FOG", (x, n) -> x.soonest(0, n), 0, 9);
        number("ahead", (x, n) -> x.ahead(n, 0), 0, 40);
        number("ahead, FOG", (x, n) -> x.ahead(1, n), 0, 9);
        number("later, FOG", (x, n) -> x.later(n), 0, 9);
        number("trial", (x, n) -> x.trial(n, false), 0, 40);
        number("trial, words", (x, n) -> x.trial(n, true), 0, 40);
        number("span", (x, n) -> x.span(n, false), 0, 40);
        number("span, most", (x, n) -> x.span(n, true), 0, 40);
    }

    /** No promise names two numbers that must not be one: these answer. */
    private static void twoAreOne() {
        Check.sentence("a number is none, or two are one.");
        Refusal.answered("a thief who stays", x -> x.thief(5, 5, 5));
        Refusal.answered("a row of one HOUSE", x -> {
            Check.rows(x, 1, 1, 1);
            return x.denied(false);
        });
        Check.due("a thief who stays", Told.watched(3, 0).thief(5, 5, 5), 3);
    }

    private static void cannotBe() {
        Check.sentence("IllegalStateException: it cannot be.");
        Refusal.due("done of what is SO", CANNOT, Refusal::lived, x -> x.done(0));
        Refusal.due("say of one AWAY", CANNOT, Refusal::lived, x -> x.say(2, 1));
        Refusal.due("say of what it did not SEE", CANNOT, Refusal::lived, x -> x.say(0, 2));
        Refusal.due("say of what it SAID", CANNOT, Refusal::lived, x -> x.say(0, 1));
        Refusal.due("a 4th MIRROR", CANNOT, () -> {
            AllSawIt x = Refusal.lived();
            x.mirror(0);
            x.mirror(0);
            return x;
        }, x -> x.mirror(0));
    }

    private static AllSawIt full() {
        AllSawIt x = Told.watched(8, 10);
        for (int n = 3; n <= 12; n++) {
            Check.tell(x, "mists 2");
            x.street();
        }
        x.mirror(7);
        x.mirror(7);
        x.mirror(7);
        x.image();
        x.days(1);
        return x;
    }

    private static AllSawIt fullWith(String text) {
        AllSawIt x = full();
        Check.tell(x, text);
        return x;
    }

    private static void toldFirst() {
        Check.sentence("Of several exceptions the one told first is thrown;");
        Refusal.usingUp("a wrong text, and 12 are told", NO_NUMBER, () -> fullWith("mists"), AllSawIt::street, 5);
        Refusal.usingUp("a text of a 9th HOUSE, and 12 are told", NO_NUMBER,
                () -> fullWith("house 1 sees 1 to 1 up 1 for 1"), AllSawIt::street, 0);
        Refusal.usingUp("a right text, and 12 are told", FULL, () -> fullWith("mists 3"), AllSawIt::street, -1);
        Refusal.noSuch("house", x -> x.house(3, 11));
        Refusal.noSuch("deed", x -> x.deed(3, 9));
        Refusal.noSuch("say, the HOUSE is none, and all SAID of it", x -> x.say(3, 0));
        Refusal.noSuch("say, the DEED is none, and the HOUSE is AWAY", x -> x.say(2, 3));
        Refusal.noSuch("up, the HOUSE", x -> x.up(3, 0, 25));
        Refusal.noSuch("up, the HOUR", x -> x.up(0, 24, 25));
        Refusal.noSuch("spite", x -> x.spite(3, 10));
        Refusal.noSuch("soonest", x -> x.soonest(3, 10));
        Refusal.due("lodger", IndexOutOfBoundsException.class, RefusedBoundsTest::full, x -> x.lodger(8));
        Refusal.due("lodger of one that is", FULL, RefusedBoundsTest::full, x -> x.lodger(7));
        Refusal.due("done of none", IndexOutOfBoundsException.class, RefusedBoundsTest::full, x -> x.done(10));
        Refusal.due("done of one that is SO", CANNOT, RefusedBoundsTest::full, x -> x.done(9));
        Refusal.due("a MIRROR of none", IndexOutOfBoundsException.class, RefusedBoundsTest::full, x -> x.mirror(8));
        Refusal.due("a 4th MIRROR", CANNOT, RefusedBoundsTest::full, x -> x.mirror(7));
    }

    private static void nothingChanges() {
        Check.sentence("a call that throws changes nothing but the TAPE, where it is used up.");
        Refusal.usingUp("a wrong text", NO_NUMBER, () -> livedWith("mists 3;mists"), AllSawIt::street, 13);
        Refusal.usingUp("a wrong law", NO_NUMBER, () -> livedWith("see;blind if"), AllSawIt::law, 12);
        Refusal.usingUp("a 13th text", FULL, () -> fullWith("mists 3"), AllSawIt::street, -1);
        Refusal.usingUp("rows that are none", NO_NUMBER, () -> livedWith("abc"), x -> x.denied(true), 6);
        Refusal.usingUp("rows that are none", NO_NUMBER, () -> livedWith("abc"), AllSawIt::ask, 6);
        // The TAPE is not used up by any other call that throws; Refusal looks at its bytes.
        Refusal.due("log", NoSuchElementException.class, Refusal::lived, x -> x.log(0, 3));
        Refusal.due("house", NoSuchElementException.class, Refusal::lived, x -> x.house(0, 11));
        Refusal.due("deed", NoSuchElementException.class, Refusal::lived, x -> x.deed(0, 9));
        Refusal.noNumber("days", x -> x.days(61));
        Refusal.noSuch("away", x -> x.away(3, true));
        Refusal.due("lodger", FULL, RefusedBoundsTest::full, x -> x.lodger(0));
    }

    private static AllSawIt livedWith(String text) {
        AllSawIt x = Refusal.lived();
        Check.tell(x, text);
        return x;
    }

    private static void sets() {
        Check.sentence("Sets are bits; of none they count for nothing.");
        AllSawIt x = Check.street("deed 1 at 1");
        Check.due("WITNESSES", x.witnesses(1, 1), 0);
        Check.due("WAKE", x.wake(1, 1), 0);
        Check.due("EYES", x.eyes(1), 0);
        Check.due("ALONE", x.alone(1, -1), 0);
        Check.due("BOOK", x.book(false), 0);
        Check.due("HALF", x.book(true), 0);
        Check.due("AHEAD", x.ahead(40, 0), 0);
        Check.due("TRIAL", x.trial(40, false), 0);
        Check.due("SURE", x.denied(true), 0);
        Check.due("AWAY", x.count(7), 0);
        Check.due("DONE", x.done(0), 0);
        Check.due("SAW", x.deed(0, 3), 0);
        Check.due("SAID", x.deed(0, 4), 0);
        Check.due("HANGS", x.deed(0, 6), 0);
        Check.due("CHAIN", x.deed(0, 7), 0);
        Check.due("BRIBE", x.deed(0, 8), 0);
        Check.due("words of TRIAL", x.trial(40, true), 0);
        Check.due("the fewest of SPAN", x.span(40, false), 0);
        Check.due("the most of SPAN", x.span(40, true), 0);
        AllSawIt full = Told.watched(8, 10);
        full.days(1);
        Check.due("a bit for each HOUSE", full.deed(9, 4), 255);
        Check.due("a bit for each DEED", full.book(false), 1023);
        Check.due("a bit for each PLACE", full.open(0, false), (1 << 24) - 1);
    }
}
