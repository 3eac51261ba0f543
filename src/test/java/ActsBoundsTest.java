/** The boundaries of the ACTS and of THE LOG, sentence by sentence. */
public final class ActsBoundsTest {
    private static final Class<IllegalStateException> CANNOT = IllegalStateException.class;
    private static final String EYE = "house 12 sees 0 to 23 up 0 for 24";
    private static final int[] FAR = {Integer.MIN_VALUE, Integer.MAX_VALUE};

    private ActsBoundsTest() {
    }

    public static void main(String[] args) {
        done();
        doneCall();
        say();
        sayCall();
        away();
        mirror();
        up();
        spite();
        lodger();
        lodgerCall();
        days();
        log();
        logCall();
        led();
        Check.end();
    }

    private static void done() {
        Check.sentence("a DEED is DONE by hand now (the HOUSES that SEE it SAW it; whatever it hangs on)");
        AllSawIt x = Told.watched(8, 1);
        Check.tell(x, "deed 12 at 0 hangs 0;deed 12 at 0 hangs 1");
        x.street();
        Check.due("it hangs on one that hangs", x.done(2), 255);
        Check.due("they SAW it", x.deed(2, 3), 255);
        Check.due("not the one on which it hangs", x.deed(1, 3), 0);
        Check.due("nobody SAID a word", x.count(10), 0);
        Check.due("no DAY goes by", x.count(4), 0);
        x.away(7, true);
        Check.due("all but the last", x.done(1), 127);
        x.away(7, false);
        for (int h = 0; h < 7; h++) {
            x.away(h, true);
        }
        Check.due("the last alone", x.done(1), 128);
        Check.due("those who SAW it ahead stay so", x.deed(1, 3), 255);
        x.away(7, true);
        Check.due("nobody", x.done(0), 0);
        Check.due("nobody SAW it", x.deed(0, 3), 0);
        Check.due("without HOUSES", Told.watched(0, 1).done(0), 0);
    }

    private static void doneCall() {
        Check.promise(10, "DONE by hand: HOUSES that SEE it, as bits. IllegalStateException: it is SO.");
        AllSawIt x = Told.watched(2, 1);
        x.done(0);
        x.say(0, 0);
        Check.due("SAID by one it is not SO", x.done(0), 3);
        Refusal.due("done of what is SO", CANNOT, Refusal::lived, a -> a.done(0));
        Refusal.answered("done of what is not", a -> a.done(2));
        Refusal.due("done of what is SO, with a LODGER", CANNOT, () -> {
            AllSawIt y = Refusal.lived();
            y.lodger(0);
            return y;
        }, a -> a.done(0));
    }

    private static void say() {
        Check.sentence("a HOUSE SAYS that it SAW a DEED (and all is asked anew what is SO)");
        AllSawIt x = Check.street(EYE + ";" + EYE + ";deed 12 at 0;deed 12 at 0 hangs 0;deed 12 at 0");
        for (int d = 0; d < 3; d++) {
            x.done(d);
        }
        x.say(1, 1);
        x.say(0, 1);
        Check.due("nothing is SO", x.book(false), 0);
        x.say(0, 0);
        Check.due("nothing is SO yet", x.book(false), 0);
        x.say(1, 0);
        Check.due("the one that hangs, too", x.book(false), 3);
        Check.due("a word each", x.count(10), 4);
        Check.due("nothing of the other", x.deed(2, 4), 0);
        Check.promise(11, "SAYS: whether it is SO then.");
        AllSawIt y = Check.street(EYE + ";" + EYE + ";deed 12 at 0;deed 12 at 0 hangs 0");
        y.done(0);
        y.done(1);
        Check.due("one of two", y.say(0, 0), false);
        Check.due("the other", y.say(1, 0), true);
        Check.due("one of two", y.say(1, 1), false);
        Check.due("the other", y.say(0, 1), true);
    }

    private static void sayCall() {
        Check.promise(11, "IllegalStateException: the HOUSE is AWAY, did not SEE it, or SAID so already.");
        Refusal.due("it is AWAY", CANNOT, Refusal::lived, x -> x.say(2, 1));
        Refusal.answered("it is back", x -> x.away(2, false) && x.say(2, 1));
        Refusal.due("it did not SEE it", CANNOT, Refusal::lived, x -> x.say(0, 2));
        Refusal.due("it SAID so already", CANNOT, Refusal::lived, x -> x.say(0, 1));
        Refusal.due("it SAID so already, and it is SO", CANNOT, Refusal::lived, x -> x.say(0, 0));
        Refusal.due("one that SEES it, but did not when it was DONE", CANNOT, () -> {
            AllSawIt x = Check.street(EYE + ";deed 12 at 0;away 0");
            x.done(0);
            x.away(0, false);
            return x;
        }, x -> x.say(0, 0));
        AllSawIt y = Told.watched(1, 1);
        y.done(0);
        y.up(0, 0, 0);
        Check.due("one that SAW it, but does not SEE it now", y.say(0, 0), true);
        Refusal.due("a LODGER did not SEE it", CANNOT, () -> {
            AllSawIt x = Told.watched(1, 1);
            x.done(0);
            x.lodger(0);
            return x;
        }, x -> x.say(1, 0));
    }

    private static void away() {
        Check.sentence("a HOUSE goes AWAY, or comes back");
        AllSawIt x = Told.watched(8, 0);
        for (int h = 0; h < 8; h++) {
            Check.due("goes", x.away(h, true), true);
            Check.due("as bits", x.count(7), (2 << h) - 1);
            Check.due("AWAY", x.house(h, 7), 1);
        }
        Check.due("all are AWAY", x.witnesses(12, 0), 0);
        Check.due("the last comes back", x.away(7, false), true);
        Check.due("the first comes back", x.away(0, false), true);
        Check.due("two SEE", x.witnesses(12, 0), 129);
        Check.promise(12, "AWAY, or back: whether that changed.");
        Check.due("back once more", x.away(0, false), false);
        Check.due("AWAY once more", x.away(1, true), false);
        Check.due("as bits", x.count(7), 126);
        Check.due("AWAY", x.away(0, true), true);
        Check.due("back", x.away(1, false), true);
    }

    private static AllSawIt threeMirrors() {
        AllSawIt x = Refusal.lived();
        x.mirror(0);
        x.mirror(0);
        return x;
    }

    private static void mirror() {
        Check.sentence("a MIRROR more; UP is told anew; SPITE is told;");
        AllSawIt x = Told.watched(2, 0);
        for (int n = 1; n <= 3; n++) {
            x.mirror(1);
            x.up(1, 24 - n, n);
            x.spite(1, 3 * n);
            Check.due("MIRRORS", x.house(1, 6), n);
            Check.due("UP from", x.house(1, 3), 24 - n);
            Check.due("UP for", x.house(1, 4), n);
            Check.due("SPITE", x.house(1, 5), 3 * n);
        }
        Check.due("nothing of the other", x.house(0, 3) + x.house(0, 5) + x.house(0, 6), 0);
        Check.promise(13, "A MIRROR more: how many. IllegalStateException: there are 3.");
        AllSawIt y = Told.watched(2, 0);
        Check.due("the first", y.mirror(0), 1);
        Check.due("the first of the other", y.mirror(1), 1);
        Check.due("the second", y.mirror(0), 2);
        Check.due("the third", y.mirror(0), 3);
        Check.due("the second of the other", y.mirror(1), 2);
        Refusal.due("a 4th", CANNOT, ActsBoundsTest::threeMirrors, a -> a.mirror(0));
        Check.due("another HOUSE may have one more", threeMirrors().mirror(2), 1);
    }

    private static void up() {
        Check.promise(14, "UP is told: how many HOURS it was.");
        AllSawIt x = Told.watched(1, 0);
        Check.due("it was all", x.up(0, 23, 0), 24);
        Check.due("it was none", x.up(0, 0, 1), 0);
        Check.due("it was one", x.up(0, 0, 24), 1);
        Check.promise(14, "IndexOutOfBoundsException: there is no such HOUSE, HOUR; IllegalArgumentException: so "
                + "many are none.");
        for (int hour : new int[] {0, 23}) {
            Refusal.answered("from " + hour, a -> a.up(0, hour, 0));
            Refusal.answered("from " + hour, a -> a.up(0, hour, 24));
        }
        for (int hour : new int[] {-1, 24, FAR[0], FAR[1]}) {
            Refusal.noSuch("from " + hour, a -> a.up(0, hour, 1));
            Refusal.noSuch("from " + hour + ", too long", a -> a.up(0, hour, 25));
        }
        for (int house : new int[] {-1, 3, FAR[0], FAR[1]}) {
            Refusal.noSuch("HOUSE " + house, a -> a.up(house, 1, 1));
            Refusal.noSuch("HOUSE " + house + ", no HOUR, too long", a -> a.up(house, 24, 25));
        }
        for (int n : new int[] {-1, 25, FAR[0], FAR[1]}) {
            Refusal.noNumber("for " + n, a -> a.up(0, 1, n));
        }
    }

    private static void spite() {
        Check.promise(15, "SPITE is told: what it was. IllegalArgumentException: it is none.");
        AllSawIt x = Told.watched(1, 0);
        Check.due("it was none", x.spite(0, 9), 0);
        Check.due("it was 9", x.spite(0, 0), 9);
        Check.due("it was none", x.spite(0, 0), 0);
        for (int n : new int[] {-1, 10, FAR[0], FAR[1]}) {
            Refusal.noNumber("SPITE " + n, a -> a.spite(0, n));
            Refusal.noSuch("no HOUSE, SPITE " + n, a -> a.spite(3, n));
        }
    }

    private static void lodger() {
        Check.sentence("a LODGER: one HOUSE more, the last one, as one that there is, but it SAW and SAID nothing");
        AllSawIt x = Check.street("house 5 sees 4 to 9 up 20 for 7 spite 8;" + EYE + ";deed 6 at 20");
        x.mirror(0);
        x.mirror(0);
        x.done(0);
        x.say(0, 0);
        Check.due("its number", x.lodger(0), 2);
        Check.due("one HOUSE more", x.count(0), 3);
        for (int what = 0; what <= 7; what++) {
            Check.due("as the other, " + what, x.house(2, what), x.house(0, what));
        }
        Check.due("PLACE", x.house(2, 0), 5);
        Check.due("SPITE", x.house(2, 5), 8);
        Check.due("MIRRORS", x.house(2, 6), 2);
        Check.due("it SAW nothing", x.deed(0, 3), 3);
        Check.due("it SAID nothing", x.deed(0, 4), 1);
        Check.due("it lacks the DEED", x.house(2, 9), 1);
        Check.due("it owes none", x.house(2, 8), 0);
        x.spite(2, 1);
        Check.due("what is told to it is not told to the other", x.house(0, 5), 8);
        x.away(2, true);
        Check.due("a LODGER of a LODGER that is AWAY", x.lodger(2), 3);
        Check.due("is AWAY, too", x.count(7), 12);
        Check.due("has its SPITE", x.house(3, 5), 1);
    }

    private static AllSawIt eight() {
        AllSawIt x = Refusal.lived();
        for (int n = 3; n < 8; n++) {
            x.lodger(1);
        }
        return x;
    }

    private static void lodgerCall() {
        Check.promise(16, "A LODGER, as a HOUSE: its number. UnsupportedOperationException: there are 8.");
        AllSawIt x = Told.watched(1, 0);
        for (int n = 1; n < 8; n++) {
            Check.due("its number", x.lodger(n - 1), n);
        }
        Class<UnsupportedOperationException> full = UnsupportedOperationException.class;
        Refusal.due("a 9th HOUSE", full, ActsBoundsTest::eight, a -> a.lodger(0));
        Refusal.due("a 9th HOUSE, as the last", full, ActsBoundsTest::eight, a -> a.lodger(7));
        Refusal.due("a 9th HOUSE, as one that is not", IndexOutOfBoundsException.class, ActsBoundsTest::eight, a -> a.lodger(8));
        AllSawIt undone = eight();
        undone.undo();
        Check.due("one undone, there is room again", undone.lodger(0), 7);
        Refusal.due("none without HOUSES", IndexOutOfBoundsException.class, AllSawIt::new, a -> a.lodger(0));
    }

    private static void days() {
        Check.sentence("SAW and SAID nothing; DAYS.");
        AllSawIt x = new AllSawIt();
        x.days(1);
        Check.due("DAYS are an act", x.count(12), 1);
        x.days(60);
        Check.due("however many", x.count(12), 2);
        Check.due("DAY", x.count(4), 61);
    }

    private static void row(AllSawIt x, int ago, int day, int house, int deed) {
        Check.due("DAY, " + ago + " ago", x.log(ago, 0), day);
        Check.due("HOUSE, " + ago + " ago", x.log(ago, 1), house);
        Check.due("DEED, " + ago + " ago", x.log(ago, 2), deed);
    }

    private static void log() {
        Check.sentence("THE LOG: the latest 60 words: DAY, HOUSE, DEED: as a HOUSE first SAID of a DEED.");
        AllSawIt x = Told.watched(8, 10);
        x.days(60);
        x.undo();
        Check.due("undone", x.count(11), 0);
        for (int d = 0; d < 10; d++) {
            x.done(d);
        }
        for (int n = 0; n < 80; n++) {
            x.say(n % 8, n / 8);
            Check.due("words in all", x.count(10), n + 1);
            Check.due("rows", x.count(11), Math.min(n + 1, 60));
            row(x, 0, 0, n % 8, n / 8);
            int oldest = Math.max(0, n - 59);
            row(x, n - oldest, 0, oldest % 8, oldest / 8);
            row(x, n - oldest + 1, -1, -1, -1);
        }
        AllSawIt y = Check.street(EYE + ";" + EYE + ";deed 12 at 0;deed 12 at 0 hangs 0");
        y.days(1);
        row(y, 0, 0, 1, 0);
        row(y, 1, 0, 0, 0);
        y.days(1);
        row(y, 0, 1, 1, 1);
        row(y, 1, 1, 0, 1);
        y.days(9);
        Check.due("only as it is first SAID", y.count(11), 4);
    }

    private static void logCall() {
        Check.promise(39, "THE LOG so many ago (0 the latest) what 0 DAY, 1 HOUSE, 2 DEED; NONE without.");
        AllSawIt x = Told.watched(1, 2);
        row(x, 0, -1, -1, -1);
        x.days(3);
        row(x, 0, 0, 0, 1);
        row(x, 1, 0, 0, 0);
        row(x, 2, -1, -1, -1);
        row(x, -1, -1, -1, -1);
        row(x, 60, -1, -1, -1);
        row(x, FAR[0], -1, -1, -1);
        row(x, FAR[1], -1, -1, -1);
        Check.promise(39, "NoSuchElementException: another what.");
        for (int what : new int[] {-1, 3, FAR[0], FAR[1]}) {
            for (int ago : new int[] {0, -1, 99}) {
                Refusal.due("what " + what + ", " + ago + " ago", java.util.NoSuchElementException.class, Refusal::lived,
                        a -> a.log(ago, what));
            }
        }
    }

    private static void led() {
        Check.sentence("LED: how many rows of THE LOG are of a HOUSE; the DAY of the latest (none).");
        AllSawIt x = Told.watched(8, 10);
        for (int h = 0; h < 8; h++) {
            Check.due("rows at first", x.led(h, false), 0);
            Check.due("the DAY at first", x.led(h, true), -1);
        }
        x.days(7);
        for (int h = 0; h < 8; h++) {
            Check.due("the words of the first two are no more in THE LOG", x.led(h, false), h < 2 ? 0 : 10);
            Check.due("nor are their DAYS", x.led(h, true), h < 2 ? -1 : 0);
        }
        AllSawIt y = Told.watched(8, 10);
        for (int d = 0; d < 10; d++) {
            y.done(d);
        }
        y.days(1);
        Check.due("8 HOUSES by 10 DEEDS", y.count(10), 80);
        AllSawIt z = Check.street(EYE + ";" + EYE + ";deed 12 at 0;deed 12 at 0 hangs 0;away 1");
        z.days(4);
        Check.due("the first alone", z.led(0, false), 1);
        Check.due("on the first DAY", z.led(0, true), 0);
        z.away(1, false);
        z.days(2);
        Check.due("the other", z.led(1, false), 2);
        Check.due("the DAY of its latest", z.led(1, true), 5);
        Check.due("the first once more", z.led(0, false), 2);
        Check.due("the DAY of its latest", z.led(0, true), 5);
        Check.promise(38, "LED: how many rows (day false), or the DAY; NONE.");
        AllSawIt w = Told.watched(2, 1);
        w.done(0);
        w.say(1, 0);
        Check.due("a row", w.led(1, false), 1);
        Check.due("its DAY", w.led(1, true), 0);
        Check.due("no row", w.led(0, false), 0);
        Check.due("no DAY", w.led(0, true), -1);
        w.undo();
        Check.due("undone", w.led(1, true), -1);
    }
}
