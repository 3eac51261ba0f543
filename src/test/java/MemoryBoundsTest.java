/** The boundaries of a new object, the TAPE, acts undone, the image, the SEED and the counts, sentence by sentence. */
public final class MemoryBoundsTest {
    private static final Class<IllegalArgumentException> WRONG = IllegalArgumentException.class;
    private static final String EYE = "house 12 sees 0 to 23 up 0 for 24";
    private static final int BLANKS = 0x20202020;
    private static final int[] FAR = {Integer.MIN_VALUE, Integer.MAX_VALUE};

    private MemoryBoundsTest() {
    }

    public static void main(String[] args) {
        newObject();
        feed();
        end();
        twelveActs();
        daysAreOne();
        asAheadOfIt();
        fullLog();
        butForTapeFaultImage();
        textsAndGoingBack();
        undoCall();
        image();
        imageCall();
        backCall();
        seedCall();
        count();
        Check.end();
    }

    private static void newObject() {
        Check.promise(1, "A street without HOUSES.");
        AllSawIt x = new AllSawIt();
        for (int what = 0; what <= 12; what++) {
            Check.due("count " + what, x.count(what), what == 3 ? -1 : 0);
        }
        Check.due("fault", x.fault(), -1);
        Check.due("SEED", Picture.seed(x), 1);
        Check.due("the TAPE", Picture.tape(x), 0);
        Refusal.due("a HOUSE", IndexOutOfBoundsException.class, AllSawIt::new, a -> a.house(0, 0));
        Refusal.due("a DEED", IndexOutOfBoundsException.class, AllSawIt::new, a -> a.deed(0, 0));
        AllSawIt other = Told.watched(8, 10);
        other.days(1);
        Check.same("another object changes nothing in it", Picture.all(x), Picture.all(new AllSawIt()));
    }

    private static AllSawIt blanks(int length) {
        AllSawIt x = new AllSawIt();
        for (int n = 0; n < length; n += 20) {
            x.feed(BLANKS, BLANKS, BLANKS, BLANKS, BLANKS);
        }
        x.end(length);
        return x;
    }

    private static void feed() {
        Check.promise(2, "Twenty bytes come behind the TAPE, of each number the highest first: how many it has;");
        AllSawIt x = new AllSawIt();
        Check.due("the first twenty", x.feed(0x6d697374, 0x73202020, 0x20202020, 0x20202020, 0x20202035), 20);
        Check.due("twenty more", x.feed(0x3b206d69, 0x73747320, 0x20202020, 0x20202020, 0x20203720), 40);
        x.street();
        Check.due("mists 5; mists 7", x.count(6), 7);
        // A byte above 127 is one byte, and no blank.
        AllSawIt high = new AllSawIt();
        high.feed(BLANKS, BLANKS, BLANKS, BLANKS, 0x202020ff);
        Check.refused("a byte of 255", WRONG, high::street);
        Check.due("it is the last of twenty", high.fault(), 19);
        AllSawIt sign = new AllSawIt();
        sign.feed(0xa0202020, BLANKS, BLANKS, BLANKS, BLANKS);
        Check.refused("a byte of 160", WRONG, sign::street);
        Check.due("it is the first of twenty", sign.fault(), 0);
        for (int length : new int[] {0, 1, 19, 20, 21, 361, 379, 380}) {
            Check.due("behind " + length, blanks(length).feed(0, 0, 0, 0, 0), length + 20);
        }
        Check.promise(2, "NONE, and none come, if it would have more than 400.");
        for (int length : new int[] {381, 382, 399, 400}) {
            AllSawIt full = blanks(length);
            Check.due("behind " + length, full.feed(-1, -1, -1, -1, -1), -1);
            Check.due("none come", Picture.tape(full), length);
            Check.due("none come: the text is of blanks", full.street(), 1);
            Check.due("used up, there is room again", full.feed(0, 0, 0, 0, 0), 20);
        }
        AllSawIt fits = blanks(380);
        Check.due("400", fits.feed(BLANKS, BLANKS, BLANKS, BLANKS, 0x2020203f), 400);
        Check.due("one time more", fits.feed(BLANKS, BLANKS, BLANKS, BLANKS, BLANKS), -1);
        Check.refused("the last byte is there", WRONG, fits::street);
        Check.due("the last byte", fits.fault(), 399);
    }

    private static void end() {
        Check.promise(3, "The TAPE has its first n bytes alone: true;");
        for (int n : new int[] {40, 39, 21, 20, 1, 0}) {
            AllSawIt x = blanks(40);
            Check.due("end " + n, x.end(n), true);
            Check.due("bytes", Picture.tape(x), n);
            Check.due("more come behind them", x.feed(0x3f202020, BLANKS, BLANKS, BLANKS, BLANKS), n + 20);
            Check.refused("a wrong byte behind them", WRONG, x::street);
            Check.due("its place", x.fault(), n);
        }
        Check.due("none of none", new AllSawIt().end(0), true);
        AllSawIt first = new AllSawIt();
        first.feed(0x6d697374, 0x73203120, 0x3f202020, BLANKS, BLANKS);
        Check.due("its first 8", first.end(8), true);
        Check.due("the wrong byte behind them is gone", first.street(), 1);
        Check.due("400 of 400", blanks(400).end(400), true);
        Check.promise(3, "false, and nothing happens, if it has fewer, or n is below 0.");
        AllSawIt x = Refusal.lived();
        String was = Picture.all(x);
        for (int n : new int[] {8, 9, 400, 401, -1, -2, FAR[0], FAR[1]}) {
            Check.due("end " + n, x.end(n), false);
            Check.same("nothing happens by " + n, Picture.all(x), was);
        }
        Check.due("its 7 bytes", x.end(7), true);
        Check.same("they are all", Picture.all(x), was);
        Check.due("1 of none", new AllSawIt().end(1), false);
        Check.due("401 of 400", blanks(400).end(401), false);
    }

    private static void twelveActs() {
        Check.sentence("UNDONE: the latest ACT not undone yet (12 are remembered;");
        for (int acts : new int[] {0, 1, 11, 12, 13, 24, 25, 40}) {
            AllSawIt x = Check.street(EYE);
            for (int n = 1; n <= acts; n++) {
                x.up(0, n % 24, n % 25);
                Check.due("acts that can be UNDONE", x.count(12), Math.min(n, 12));
            }
            int kept = Math.min(acts, 12);
            for (int n = 1; n <= kept; n++) {
                Check.due("UNDONE", x.undo(), true);
                Check.due("from the HOUR of before", x.house(0, 3), (acts - n) % 24);
                Check.due("acts that are left", x.count(12), kept - n);
            }
            Check.due("no more", x.undo(), false);
            Check.due("what is not remembered stays", x.house(0, 3), (acts - kept) % 24);
        }
        // One undone and one more, at the full row: the latest not undone yet is the one more.
        AllSawIt y = Check.street(EYE);
        for (int n = 1; n <= 12; n++) {
            y.up(0, n, 24);
        }
        for (int n = 0; n < 15; n++) {
            y.undo();
            Check.due("as it was", y.house(0, 3), 11);
            y.up(0, 20, 24);
            Check.due("acts", y.count(12), 12);
        }
        y.undo();
        y.undo();
        Check.due("the one ahead of both", y.house(0, 3), 10);
    }

    private static void daysAreOne() {
        Check.sentence("DAYS of one call are one):");
        AllSawIt x = Told.watched(2, 2);
        x.seed(9);
        String was = Picture.state(x);
        x.days(60);
        Check.due("one act", x.count(12), 1);
        Check.due("UNDONE", x.undo(), true);
        Check.same("all 60", Picture.state(x), was);
        x.days(1);
        x.days(2);
        Check.due("two calls are two", x.count(12), 2);
        x.undo();
        Check.due("DAY", x.count(4), 1);
        x.undo();
        Check.due("DAY", x.count(4), 0);
    }

    private static void asAheadOfIt() {
        Check.sentence("all is as ahead of it (but for the TAPE, fault(), THE IMAGE).");
        AllSawIt x = Check.street(EYE + " spite 3;" + EYE + ";deed 12 at 0;deed 11 at 1 hangs 0;deed 10 at 2;mists 9", "see if up;"
                + "blind if away;blind if apart > 11 and fog > 3");
        x.seed(-5);
        Runnable[] acts = {() -> x.done(0), () -> x.say(0, 0), () -> x.say(1, 0), () -> x.away(0, true), () -> x.mirror(1),
            () -> x.up(1, 23, 2), () -> x.spite(1, 9), () -> x.lodger(1), () -> x.days(1), () -> x.days(40),
            () -> x.away(0, false), () -> x.days(3)};
        String[] was = new String[acts.length];
        for (int n = 0; n < acts.length; n++) {
            was[n] = Picture.state(x);
            acts[n].run();
            Check.yes("act " + n + " changes something", !Picture.state(x).equals(was[n]));
        }
        for (int n = acts.length - 1; n >= 0; n--) {
            // What is told of the SEED in between is no ACT; all is as ahead of the ACT, the SEED, too.
            x.seed(n + 1000);
            Check.due("UNDONE", x.undo(), true);
            Check.same("act " + n + " UNDONE", Picture.state(x), was[n]);
        }
        Check.due("no more", x.undo(), false);
    }

    /** Words that were pushed out of a full LOG are in it again. */
    private static void fullLog() {
        Check.sentence("all is as ahead of it");
        AllSawIt x = Told.watched(8, 10);
        for (int d = 0; d < 10; d++) {
            x.done(d);
        }
        String[] was = new String[80];
        for (int n = 0; n < 80; n++) {
            was[n] = Picture.state(x);
            if (n == 66) {
                x.image();
            }
            x.say(n % 8, n / 8);
        }
        for (int n = 79; n >= 68; n--) {
            x.undo();
            Check.same("word " + n + " UNDONE", Picture.state(x), was[n]);
        }
        x.say(7, 9);
        x.say(6, 9);
        x.undo();
        x.undo();
        Check.same("other words UNDONE", Picture.state(x), was[68]);
        x.say(5, 9);
        x.back();
        Check.same("gone back", Picture.state(x), was[66]);
    }

    private static void butForTapeFaultImage() {
        Check.sentence("(but for the TAPE, fault(), THE IMAGE)");
        AllSawIt x = Check.street(EYE + ";mists 3");
        x.mirror(0);
        x.mirror(0);
        x.image();
        x.mirror(0);
        Check.tell(x, "mists 1?");
        Check.refused("a wrong text", WRONG, x::street);
        Check.tell(x, "mists 8");
        for (int left = 2; left >= 0; left--) {
            Check.due("UNDONE", x.undo(), true);
            Check.due("MIRRORS", x.count(8), left);
            Check.due("fault() stays", x.fault(), 7);
            Check.due("the TAPE stays", Picture.tape(x), 7);
        }
        Check.due("THE IMAGE stays", x.back(), true);
        Check.due("as it was kept", x.count(8), 2);
        Check.due("the TAPE still stays", x.street(), 2);
        Check.due("with its bytes", x.count(6), 8);
    }

    private static AllSawIt withActs(int n) {
        AllSawIt x = Check.street(EYE + ";mists 3", "see");
        for (int i = 0; i < n; i++) {
            x.away(0, i % 2 == 0);
        }
        return x;
    }

    private static void textsAndGoingBack() {
        Check.sentence("A text, going back: none are remembered.");
        for (String text : new String[] {"", "   ", "mists 3", EYE}) {
            AllSawIt x = withActs(3);
            Check.tell(x, text);
            x.street();
            Check.due("none behind a text", x.count(12), 0);
            Check.due("nothing to undo", x.undo(), false);
            Check.due("what was done stays", x.count(7), 1);
        }
        for (String text : new String[] {"", "see", "blind if up"}) {
            AllSawIt x = withActs(12);
            Check.tell(x, text);
            x.law();
            Check.due("none behind a law", x.count(12), 0);
            Check.due("nothing to undo", x.undo(), false);
        }
        AllSawIt x = withActs(12);
        Check.tell(x, "mists 10");
        Check.refused("a wrong text", WRONG, x::street);
        Check.due("all behind a wrong one", x.count(12), 12);
        Check.tell(x, "see if");
        Check.refused("a wrong law", WRONG, x::law);
        Check.due("all behind a wrong law", x.count(12), 12);
        Check.due("none kept", x.back(), false);
        Check.due("all, as there was nothing to go back to", x.count(12), 12);
        x.image();
        Check.due("all behind an image", x.count(12), 12);
        x.back();
        Check.due("none, gone back", x.count(12), 0);
        Check.due("nothing to undo", x.undo(), false);
        x.mirror(0);
        Check.due("the next is remembered", x.count(12), 1);
        Check.due("and undone", x.undo(), true);
        Check.due("no MIRROR", x.count(8), 0);
    }

    private static void undoCall() {
        Check.promise(41, "UNDONE: whether there was one.");
        AllSawIt x = new AllSawIt();
        String was = Picture.all(x);
        Check.due("none at first", x.undo(), false);
        Check.same("nothing happens", Picture.all(x), was);
        x.days(1);
        Check.due("one without HOUSES", x.undo(), true);
        Check.same("as at first", Picture.all(x), was);
        Check.due("undoing is no act", x.undo(), false);
        AllSawIt y = Refusal.lived();
        int acts = y.count(12);
        Check.refused("a call that throws", IllegalStateException.class, () -> y.done(0));
        Check.due("is no act", y.count(12), acts);
        y.feed(0, 0, 0, 0, 0);
        y.end(0);
        y.fault();
        y.best();
        y.trial(3, true);
        y.span(3, true);
        y.ahead(3, 1);
        y.seed(4);
        y.image();
        y.ask();
        Check.due("neither are these", y.count(12), acts);
        y.away(0, false);
        Check.due("one that changes nothing is", y.count(12), acts + 1);
        y.spite(0, y.house(0, 5));
        Check.due("so is this", y.count(12), acts + 2);
        y.done(2);
        Check.due("and this, that nobody SEES", y.count(12), acts + 3);
    }

    private static void image() {
        Check.sentence("THE IMAGE (one) of all may be kept, and gone back to (but for the TAPE, fault() and THE "
                + "IMAGE itself).");
        AllSawIt x = Refusal.lived();
        x.image();
        String first = Picture.state(x);
        x.lodger(0);
        x.days(20);
        x.image();
        String second = Picture.state(x);
        Check.tell(x, EYE + ";deed 1 at 1;mists 1;away 1");
        x.street();
        Check.tell(x, "blind;see;see");
        x.law();
        x.seed(99);
        x.days(60);
        Check.tell(x, "mists 1;?");
        Check.refused("a wrong text", WRONG, x::street);
        Check.tell(x, "mists 6");
        for (int n = 0; n < 3; n++) {
            x.mirror(0);
            Check.due("gone back", x.back(), true);
            Check.same("to the latest image, time " + n, Picture.state(x), second);
            Check.yes("not to the first", !second.equals(first));
            Check.due("fault() stays", x.fault(), 8);
            Check.due("the TAPE stays", Picture.tape(x), 7);
            Check.due("no acts are left", x.count(12), 0);
        }
        x.street();
        Check.due("the bytes of the TAPE stay", x.count(6), 6);
        AllSawIt y = Check.street(EYE);
        y.image();
        Check.tell(y, "blind");
        y.law();
        Check.due("nobody SEES", y.witnesses(12, 0), 0);
        y.back();
        Check.due("without a law again", y.count(3), -1);
        Check.due("it SEES", y.witnesses(12, 0), 1);
        AllSawIt z = new AllSawIt();
        z.image();
        for (int n = 1; n <= 12; n++) {
            Check.tell(z, n <= 8 ? EYE : "mists 9");
            z.street();
        }
        Check.due("gone back", z.back(), true);
        Check.same("to the empty street", Picture.state(z), Picture.state(new AllSawIt()));
        Check.tell(z, EYE);
        Check.due("there is room for texts again", z.street(), 1);
    }

    private static void imageCall() {
        Check.promise(42, "THE IMAGE is kept.");
        AllSawIt x = Refusal.lived();
        String was = Picture.all(x);
        x.image();
        Check.same("keeping it changes nothing", Picture.all(x), was);
        x.image();
        x.spite(0, 9);
        x.back();
        Check.same("kept twice", Picture.state(x), Picture.state(Refusal.lived()));
        // What changes later does not change what was kept.
        AllSawIt y = Told.watched(2, 1);
        y.image();
        y.done(0);
        y.say(1, 0);
        y.back();
        Check.due("nobody SAW it", y.deed(0, 3), 0);
        y.done(0);
        y.back();
        Check.due("nobody SAW it", y.deed(0, 3), 0);
    }

    private static void backCall() {
        Check.promise(43, "One goes back to THE IMAGE: true; false, and nothing happens, if none was kept.");
        AllSawIt x = Check.street(EYE + ";mists 4", "see if up");
        x.days(2);
        x.mirror(0);
        x.feed(BLANKS, BLANKS, BLANKS, BLANKS, BLANKS);
        String was = Picture.all(x);
        Check.due("none was kept", x.back(), false);
        Check.same("nothing happens", Picture.all(x), was);
        Check.due("none in a new object", new AllSawIt().back(), false);
        x.image();
        Check.due("one was kept", x.back(), true);
        Check.due("it is still there", x.back(), true);
        x.undo();
        Check.due("it is still there", x.back(), true);
    }

    private static void seedCall() {
        Check.promise(40, "SEED: what it was.");
        AllSawIt x = new AllSawIt();
        int was = 1;
        for (int seed : new int[] {0, -1, FAR[0], FAR[1], 1, 77}) {
            Check.due("what it was", x.seed(seed), was);
            was = seed;
        }
        Check.due("no act", x.count(12), 0);
        x.days(1);
        Check.due("as a DRAW left it", x.seed(0), 1103515245 * 77 + 12345);
        x.ahead(40, 0);
        x.trial(40, false);
        x.span(40, false);
        Check.due("no other call draws", x.seed(0), 0);
    }

    private static void count() {
        Check.promise(44, "0 HOUSES, 1 DEEDS, 2 texts of THE STREET, 3 LINES of THE LAW (NONE without one), 4 DAY, 5 "
                + "FOG, 6 MISTS, 7 HOUSES that are AWAY, as bits, 8 MIRRORS of all together, 9 SPITE of all "
                + "together, 10 words in all, 11 rows of THE LOG, 12 acts that can be UNDONE.");
        AllSawIt x = Told.watched(8, 10);
        for (int n = 3; n <= 12; n++) {
            Check.tell(x, "mists 9");
            x.street();
        }
        Check.due("LINES without a law", x.count(3), -1);
        Check.tell(x, Told.lines("see", 12));
        x.law();
        for (int h = 0; h < 8; h++) {
            x.mirror(h);
            x.mirror(h);
            x.mirror(h);
        }
        Told.foggyDay(x, 9);
        for (int h = 0; h < 8; h++) {
            x.spite(h, 9);
            x.away(h, true);
        }
        int[] most = {8, 10, 12, 12, 1, 9, 9, 255, 24, 72, 80, 60, 12};
        for (int what = 0; what <= 12; what++) {
            Check.due("the most, " + what, x.count(what), most[what]);
        }
        Check.tell(x, "");
        x.law();
        Check.due("a law without LINES", x.count(3), 0);
        Check.promise(44, "NONE for another what.");
        for (int what : new int[] {-1, 13, 14, FAR[0], FAR[1]}) {
            Check.due("what " + what, x.count(what), -1);
            Check.due("of a new object, what " + what, new AllSawIt().count(what), -1);
        }
    }
}
