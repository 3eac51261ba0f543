import java.util.NoSuchElementException;

/** Promises 38 to 44: the log, the seed, acts undone, the image, counts. */
public final class MemoryTest {
    private static final Class<IndexOutOfBoundsException> NO_SUCH = IndexOutOfBoundsException.class;
    private static final int[] ODD = {-1, 8, 1000, Integer.MIN_VALUE, Integer.MAX_VALUE};
    private static final String TWO = "house 1 sees 0 to 9 up 0 for 24;house 2 sees 0 to 9 up 0 for 24 spite 2;"
            + "deed 1 at 1;deed 2 at 1 hangs 0;deed 3 at 1;mists 3";

    private MemoryTest() {
    }

    public static void main(String[] args) {
        led();
        log();
        fullLog();
        seed();
        undo();
        undoAll();
        undoIdle();
        forgotten();
        image();
        count();
        refusedChangesNothing();
        Check.end();
    }

    private static void led() {
        Check.part("promise 38");
        AllSawIt x = Check.street(TWO);
        Check.due("rows", x.led(0, false), 0);
        Check.due("day", x.led(0, true), -1);
        x.done(0);
        x.done(2);
        x.say(0, 2);
        x.spite(1, 9);
        x.away(1, true);
        x.days(3);
        Check.due("rows", x.led(0, false), 2);
        Check.due("the day of the latest", x.led(0, true), 0);
        Check.due("rows of the other", x.led(1, false), 0);
        Check.due("no day", x.led(1, true), -1);
        x.away(1, false);
        x.say(1, 2);
        Check.due("rows of the other", x.led(1, false), 1);
        Check.due("its day", x.led(1, true), 3);
        Check.due("the first as it was", x.led(0, true), 0);
        for (int odd : ODD) {
            Check.refused("house", NO_SUCH, () -> x.led(odd, false));
            Check.refused("house", NO_SUCH, () -> x.led(odd, true));
        }
        Check.refused("house 2", NO_SUCH, () -> x.led(2, true));
    }

    private static void row(AllSawIt x, int ago, int day, int house, int deed) {
        Check.due("day " + ago, x.log(ago, 0), day);
        Check.due("house " + ago, x.log(ago, 1), house);
        Check.due("deed " + ago, x.log(ago, 2), deed);
    }

    private static void log() {
        Check.part("promise 39");
        AllSawIt x = Check.street(TWO);
        row(x, 0, -1, -1, -1);
        x.spite(1, 0);
        x.done(2);
        x.say(1, 2);
        row(x, 0, 0, 1, 2);
        x.days(2);
        // Day 0: 0 says of 0 and 2, 1 of 0; day 1: both of 1.
        row(x, 5, 0, 1, 2);
        row(x, 4, 0, 0, 0);
        row(x, 3, 0, 0, 2);
        row(x, 2, 0, 1, 0);
        row(x, 1, 1, 0, 1);
        row(x, 0, 1, 1, 1);
        row(x, 6, -1, -1, -1);
        row(x, -1, -1, -1, -1);
        row(x, Integer.MIN_VALUE, -1, -1, -1);
        row(x, Integer.MAX_VALUE, -1, -1, -1);
        for (int what : new int[] {-1, 3, Integer.MIN_VALUE, Integer.MAX_VALUE}) {
            Check.refused("what", NoSuchElementException.class, () -> x.log(0, what));
            Check.refused("what of none", NoSuchElementException.class, () -> x.log(99, what));
        }
    }

    private static void fullLog() {
        Check.part("promise 39, the latest 60");
        AllSawIt x = new AllSawIt();
        Check.tell(x, "house 1 sees 0 to 9 up 0 for 24" + ";deed 1 at 1".repeat(10));
        x.street();
        for (int i = 0; i < 7; i++) {
            x.lodger(0);
        }
        for (int d = 0; d < 10; d++) {
            x.done(d);
        }
        for (int h = 0; h < 8; h++) {
            for (int d = 9; d >= 0; d--) {
                x.say(h, d);
                int words = 10 * h + 10 - d;
                Check.due("words", x.count(10), words);
                Check.due("rows", x.count(11), Math.min(60, words));
                Check.due("the latest house", x.log(0, 1), h);
                Check.due("the latest deed", x.log(0, 2), d);
            }
        }
        Check.due("the oldest house", x.log(59, 1), 2);
        Check.due("the oldest deed", x.log(59, 2), 9);
        Check.due("no more", x.log(60, 1), -1);
        Check.due("led, forgotten", x.led(1, false), 0);
        Check.due("led, forgotten", x.led(1, true), -1);
        Check.due("led, kept", x.led(2, false), 10);
        Check.due("all so", x.book(false), 1023);
        for (int i = 0; i < 12; i++) {
            x.undo();
        }
        Check.due("words after undoing", x.count(10), 68);
        Check.due("the oldest comes back", x.log(59, 2), 1);
        Check.due("the oldest comes back", x.log(59, 1), 0);
    }

    private static void seed() {
        Check.part("promise 40");
        AllSawIt x = Check.street(TWO);
        Check.due("at first", x.seed(-9), 1);
        Check.due("then", x.seed(1), -9);
        x.days(1);
        int s = 1;
        for (int i = 0; i < 3; i++) {
            s = 1103515245 * s + 12345;
        }
        Check.due("after a day of two houses", x.seed(5), s);
        x.away(0, true);
        x.days(1);
        s = 5;
        for (int i = 0; i < 2; i++) {
            s = 1103515245 * s + 12345;
        }
        Check.due("no draw of one away", x.seed(5), s);
        Check.due("it is no act", x.count(12), 3);
        x.undo();
        Check.due("undoing brings it back", x.seed(5), 5);
    }

    private static void undo() {
        Check.part("promise 41");
        AllSawIt x = Check.street(TWO);
        Check.due("nothing yet", x.undo(), false);
        for (int n = 1; n <= 13; n++) {
            x.spite(0, n % 10);
            Check.due("12 are remembered", x.count(12), Math.min(12, n));
        }
        for (int n = 12; n >= 1; n--) {
            Check.due("undone", x.undo(), true);
            Check.due("as it was", x.house(0, 5), n % 10);
            Check.due("left", x.count(12), n - 1);
        }
        Check.due("no more", x.undo(), false);
        Check.due("the first stays", x.house(0, 5), 1);
        x.mirror(0);
        x.away(0, true);
        Check.due("undone", x.undo(), true);
        x.mirror(0);
        Check.due("one act in place of another", x.count(12), 2);
        Check.due("undone", x.undo(), true);
        Check.due("undone", x.undo(), true);
        Check.due("mirrors", x.count(8), 0);
        Check.due("away", x.count(7), 0);
        x.feed(0, 0, 0, 0, 0);
        x.mirror(1);
        x.feed(0, 0, 0, 0, 0);
        x.undo();
        Check.due("the tape stays", x.end(40), true);
    }

    /** Each act, undone, leaves all as it was ahead of it. */
    private static void undoAll() {
        Check.part("promise 41, each act");
        AllSawIt x = Check.street(TWO);
        x.done(0);
        String[] was = new String[10];
        Runnable[] acts = {() -> x.done(1), () -> x.say(0, 0), () -> x.away(1, true), () -> x.mirror(0),
            () -> x.up(0, 3, 4), () -> x.spite(0, 4), () -> x.lodger(1), () -> x.away(1, false), () -> x.days(5),
            () -> x.days(60)};
        for (int i = 0; i < acts.length; i++) {
            was[i] = Picture.state(x);
            acts[i].run();
            Check.due("act " + i + " counts", x.count(12), i + 2);
            Check.yes("act " + i + " changes something", !Picture.state(x).equals(was[i]));
        }
        for (int i = acts.length - 1; i >= 0; i--) {
            Check.due("undone", x.undo(), true);
            Check.same("act " + i + " undone", Picture.state(x), was[i]);
        }
    }

    /** An act that leaves all as it was is remembered and undone as each other one. */
    private static void undoIdle() {
        Check.part("promise 41, acts that change nothing");
        AllSawIt x = Check.street(TWO);
        x.mirror(0);
        String was = Picture.state(x);
        Runnable[] acts = {() -> x.away(1, false), () -> x.up(0, x.house(0, 3), x.house(0, 4)),
            () -> x.spite(0, x.house(0, 5)), () -> x.away(0, false)};
        for (int i = 0; i < acts.length; i++) {
            acts[i].run();
            Check.same("idle act " + i + " changes nothing", Picture.state(x), was);
            Check.due("idle act " + i + " counts", x.count(12), i + 2);
        }
        for (int i = acts.length; i > 0; i--) {
            Check.due("idle act undone", x.undo(), true);
            Check.due("the mirror stays", x.count(8), 1);
            Check.due("one act fewer", x.count(12), i);
        }
        Check.due("the mirror undone", x.undo(), true);
        Check.due("the mirror is gone", x.count(8), 0);
        x.mirror(0);
        for (int i = 0; i < 12; i++) {
            Check.due("stays where it is", x.away(i % 2, false), false);
        }
        for (int i = 0; i < 12; i++) {
            x.undo();
        }
        Check.due("12 idle acts push the mirror out", x.undo(), false);
        Check.due("the mirror stays", x.count(8), 1);
        x.seed(77);
        x.away(0, false);
        x.seed(78);
        x.undo();
        Check.due("the SEED is as ahead of the idle act", x.seed(1), 77);
    }

    private static void forgotten() {
        Check.part("promise 41, none are remembered");
        AllSawIt x = Check.street(TWO);
        x.mirror(0);
        Check.tell(x, "mists");
        Check.refused("a wrong text", IllegalArgumentException.class, x::street);
        Check.due("a wrong text does not count", x.count(12), 1);
        Check.tell(x, "");
        x.street();
        Check.due("after a text", x.count(12), 0);
        Check.due("after a text", x.undo(), false);
        Check.due("the mirror stays", x.count(8), 1);
        x.mirror(0);
        Check.tell(x, "see if");
        Check.refused("a wrong law", IllegalArgumentException.class, x::law);
        Check.due("a wrong law does not count", x.count(12), 1);
        Check.tell(x, "see");
        x.law();
        Check.due("after a law", x.count(12), 0);
        x.mirror(0);
        Check.due("no image yet", x.back(), false);
        Check.due("not by going nowhere", x.count(12), 1);
        x.image();
        Check.due("not by an image", x.count(12), 1);
        x.back();
        Check.due("by going back", x.count(12), 0);
        Check.due("by going back", x.undo(), false);
        for (int i = 0; i < 12; i++) {
            Check.tell(x, "");
            if (i < 10) {
                x.street();
            }
        }
        x.spite(0, 3);
        Check.tell(x, "");
        Check.refused("too many texts", UnsupportedOperationException.class, x::street);
        Check.due("too many do not count", x.count(12), 1);
    }

    private static void image() {
        Check.part("promises 42 and 43");
        AllSawIt x = Check.street(TWO);
        Check.due("none kept", x.back(), false);
        x.seed(44);
        x.days(1);
        x.mirror(1);
        x.away(0, true);
        String kept = Picture.state(x);
        x.image();
        Check.same("the image changes nothing", Picture.state(x), kept);
        x.undo();
        x.days(7);
        x.lodger(1);
        x.up(2, 3, 4);
        Check.tell(x, "deed 4 at 4;house 1 sees 1 to 1 up 1 for 1;mists 9");
        x.street();
        Check.tell(x, "see;see;blind if up");
        x.law();
        Check.due("lines", x.count(3), 3);
        x.feed(0, 0, 0, 0, 0);
        Check.yes("all is new", !Picture.state(x).equals(kept));
        Check.due("back", x.back(), true);
        Check.same("as it was", Picture.state(x), kept);
        Check.due("no law", x.count(3), -1);
        Check.due("the tape stays", x.end(20), true);
        x.spite(0, 9);
        Check.due("back once more", x.back(), true);
        Check.same("as it was", Picture.state(x), kept);
        Check.tell(x, "see if house > 0");
        x.law();
        x.image();
        Check.tell(x, "blind");
        x.law();
        Check.due("nobody sees", x.witnesses(23, 0), 0);
        Check.due("back", x.back(), true);
        Check.due("the law of the image", x.witnesses(23, 0), 2);
        x.mirror(0);
        x.image();
        x.undo();
        Check.due("undone", x.count(8), 1);
        Check.due("the image is not undone", x.back(), true);
        Check.due("mirrors", x.count(8), 2);
    }

    private static void count() {
        Check.part("promise 44");
        AllSawIt x = Check.street(TWO);
        Check.tell(x, "see;blind if away");
        x.law();
        x.seed(2);
        x.days(4);
        x.mirror(1);
        x.mirror(0);
        x.mirror(1);
        x.spite(0, 5);
        x.away(1, true);
        Check.due("houses", x.count(0), 2);
        Check.due("deeds", x.count(1), 3);
        Check.due("texts", x.count(2), 1);
        Check.due("lines", x.count(3), 2);
        Check.due("day", x.count(4), 4);
        Check.yes("fog", x.count(5) >= 0 && x.count(5) <= 3);
        Check.due("mists", x.count(6), 3);
        Check.due("away", x.count(7), 2);
        Check.due("mirrors", x.count(8), 3);
        Check.due("spite", x.count(9), 7);
        Check.due("words", x.count(10), x.led(0, false) + x.led(1, false));
        Check.due("rows", x.count(11), x.count(10));
        Check.due("acts", x.count(12), 6);
        for (int what : new int[] {-1, 13, Integer.MIN_VALUE, Integer.MAX_VALUE}) {
            Check.due("another", x.count(what), -1);
        }
    }

    /** A call that throws changes nothing. */
    private static void refusedChangesNothing() {
        Check.part("calls that throw");
        AllSawIt x = Check.street(TWO);
        x.done(0);
        x.say(0, 0);
        x.away(1, true);
        for (int i = 0; i < 3; i++) {
            x.mirror(0);
        }
        for (int i = 2; i < 8; i++) {
            x.lodger(0);
        }
        String was = Picture.state(x);
        Class<IllegalStateException> cannot = IllegalStateException.class;
        Class<IllegalArgumentException> number = IllegalArgumentException.class;
        Check.refused("say", cannot, () -> x.say(0, 0));
        Check.refused("say, away", cannot, () -> x.say(1, 0));
        Check.refused("say, not seen", cannot, () -> x.say(0, 1));
        Check.refused("mirror", cannot, () -> x.mirror(0));
        Check.refused("lodger", UnsupportedOperationException.class, () -> x.lodger(0));
        Check.refused("up", number, () -> x.up(0, 0, 25));
        Check.refused("spite", number, () -> x.spite(0, 10));
        Check.refused("days", number, () -> x.days(0));
        Check.refused("trial", number, () -> x.trial(41, true));
        Check.refused("done", NO_SUCH, () -> x.done(3));
        Check.refused("away", NO_SUCH, () -> x.away(8, true));
        Check.same("all as it was", Picture.state(x), was);
        Check.due("acts as they were", x.count(12), 12);
        Check.due("undone", x.undo(), true);
        Check.due("houses", x.count(0), 7);
    }
}
