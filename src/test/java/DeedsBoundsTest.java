import java.util.NoSuchElementException;

/** The boundaries of what is asked of HOUSES and DEEDS, of what is told of HOUSES, and of the book, sentence by sentence. */
public final class DeedsBoundsTest {
    private static final Class<NoSuchElementException> NO_WHAT = NoSuchElementException.class;
    private static final String EYE = "house 12 sees 0 to 23 up 0 for 24";
    private static final int[] FAR = {Integer.MIN_VALUE, Integer.MAX_VALUE};

    private DeedsBoundsTest() {
    }

    public static void main(String[] args) {
        houseCall();
        deedCall();
        hangs();
        chain();
        holds();
        owesAndLacks();
        bribe();
        denied();
        sure();
        deniedCall();
        ask();
        askCall();
        book();
        Check.end();
    }

    private static void houseCall() {
        Check.promise(7, "Of a HOUSE what 0 its PLACE, 1, 2 its WINDOW (with MIRRORS), 3 UP from, 4 UP for, 5 SPITE, "
                + "6 MIRRORS, 7 1 if AWAY, 8 OWES, 9 LACKS (8, 9 as bits), 10 SHARE.");
        AllSawIt x = Check.street("house 9 sees 8 to 11 up 22 for 6 spite 7;deed 9 at 23;deed 10 at 0;deed 12 at 1");
        x.done(1);
        int[] due = {9, 8, 11, 22, 6, 7, 0, 0, 0b010, 0b101, 100 * 24 / 576};
        for (int what = 0; what <= 10; what++) {
            Check.due("what " + what, x.house(0, what), due[what]);
        }
        for (int n = 0; n < 3; n++) {
            x.mirror(0);
        }
        x.away(0, true);
        int[] then = {9, 5, 14, 22, 6, 7, 3, 1, 0b010, 0b101, 0};
        for (int what = 0; what <= 10; what++) {
            Check.due("AWAY, with 3 MIRRORS, what " + what, x.house(0, what), then[what]);
        }
        Check.promise(7, "NoSuchElementException: another what.");
        for (int what : new int[] {-1, 11, FAR[0], FAR[1]}) {
            Refusal.due("what " + what, NO_WHAT, Refusal::lived, a -> a.house(2, what));
            Refusal.noSuch("no HOUSE, what " + what, a -> a.house(3, what));
            Refusal.noSuch("HOUSE -1, what " + what, a -> a.house(-1, what));
        }
    }

    private static void deedCall() {
        Check.promise(8, "Of a DEED what 0 its PLACE, 1 its HOUR, 2 the DEED on which it hangs (NONE), 3 SAW, 4 SAID "
                + "(3, 4 as bits), 5 1 if SO, 6 HANGS, as bits, 7 CHAIN, 8 BRIBE.");
        AllSawIt x = Check.street(EYE + " spite 4;" + EYE + " spite 5;deed 9 at 23;deed 10 at 22 hangs 0;deed 11 at 21 hangs 1");
        x.done(1);
        x.say(1, 1);
        int[] due = {10, 22, 0, 3, 2, 0, 0b100, 1, 4};
        int[] first = {9, 23, -1, 0, 0, 0, 0b110, 0, 9};
        for (int what = 0; what <= 8; what++) {
            Check.due("what " + what, x.deed(1, what), due[what]);
            Check.due("of the first, what " + what, x.deed(0, what), first[what]);
        }
        x.done(0);
        x.say(0, 0);
        x.say(1, 0);
        Check.due("1 if SO", x.deed(0, 5), 1);
        Check.promise(8, "NoSuchElementException: another what.");
        for (int what : new int[] {-1, 9, FAR[0], FAR[1]}) {
            Refusal.due("what " + what, NO_WHAT, Refusal::lived, a -> a.deed(2, what));
            Refusal.noSuch("no DEED, what " + what, a -> a.deed(3, what));
            Refusal.noSuch("DEED -1, what " + what, a -> a.deed(-1, what));
        }
    }

    /** Ten DEEDS, each of which hangs on the one ahead of it. */
    private static AllSawIt tenInARow() {
        StringBuilder all = new StringBuilder(EYE + ";deed 12 at 0");
        for (int d = 0; d < 9; d++) {
            all.append(";deed 12 at 0 hangs ").append(d);
        }
        return Check.street(all.toString());
    }

    private static void hangs() {
        Check.sentence("HANGS: DEEDS that hang on one, or on such ones, as bits.");
        AllSawIt x = tenInARow();
        for (int d = 0; d < 10; d++) {
            Check.due("in a row, " + d, x.deed(d, 6), 1023 - ((2 << d) - 1));
        }
        AllSawIt star = Check.street("deed 1 at 1" + ";deed 1 at 1 hangs 0".repeat(9));
        Check.due("all hang on the first", star.deed(0, 6), 1022);
        Check.due("none on the last", star.deed(9, 6), 0);
        Check.due("none on any", Told.watched(0, 10).deed(0, 6), 0);
        AllSawIt two = Check.street("deed 1 at 1;deed 1 at 1;deed 1 at 1 hangs 0;deed 1 at 1 hangs 1;deed 1 at 1 hangs 2");
        Check.due("on the one", two.deed(0, 6), 0b10100);
        Check.due("on the other", two.deed(1, 6), 0b01000);
    }

    private static void chain() {
        Check.sentence("CHAIN of a DEED: how many DEEDS must be SO ahead of it, all in all.");
        AllSawIt x = tenInARow();
        for (int d = 0; d < 10; d++) {
            Check.due("in a row, " + d, x.deed(d, 7), d);
        }
        AllSawIt star = Check.street("deed 1 at 1" + ";deed 1 at 1 hangs 0".repeat(9));
        Check.due("of the first", star.deed(0, 7), 0);
        Check.due("of the last", star.deed(9, 7), 1);
        x.days(4);
        Check.due("also those that are SO", x.deed(9, 7), 9);
    }

    private static void holds() {
        Check.sentence("HOLDS UP: the HOUSE that has not SAID of the most of all DEEDS that are not SO (of several "
                + "the least; none without HOUSES).");
        AllSawIt x = Told.watched(8, 10);
        Check.due("of several the least", x.holds(), 0);
        for (int d = 0; d < 10; d++) {
            x.done(d);
        }
        for (int h = 0; h < 7; h++) {
            x.say(h, h);
            Check.due("the next", x.holds(), h + 1);
        }
        x.say(7, 9);
        Check.due("all alike again", x.holds(), 0);
        x.say(0, 1);
        Check.due("the first SAID one more", x.holds(), 1);
        AllSawIt y = Told.watched(2, 2);
        y.done(0);
        y.done(1);
        y.say(0, 0);
        y.say(0, 1);
        Check.due("the second holds both up", y.holds(), 1);
        y.say(1, 0);
        Check.due("what is SO does not count: one of the second, none of the first", y.holds(), 1);
        y.say(1, 1);
        Check.due("all are SO", y.holds(), 0);
        AllSawIt z = Told.watched(2, 3);
        z.done(0);
        z.done(1);
        z.say(1, 0);
        z.say(0, 1);
        z.say(0, 0);
        Check.due("0 lacks one, 1 two", z.holds(), 1);
        z.say(1, 1);
        Check.due("all that is left is lacked by both", z.holds(), 0);
        Check.promise(29, "HOLDS UP; NONE.");
        Check.due("without HOUSES", Told.watched(0, 10).holds(), -1);
        Check.due("without HOUSES and DEEDS", new AllSawIt().holds(), -1);
        Check.due("without DEEDS of several the least", Told.watched(8, 0).holds(), 0);
    }

    private static void owesAndLacks() {
        Check.sentence("OWES of a HOUSE: DEEDS not SO that it SAW and did not SAY, as bits;");
        AllSawIt x = Told.watched(2, 10);
        Check.due("nothing at first", x.house(0, 8), 0);
        for (int d = 0; d < 10; d++) {
            x.done(d);
        }
        Check.due("all", x.house(0, 8), 1023);
        x.say(0, 9);
        x.say(0, 0);
        Check.due("all but the first and the last", x.house(0, 8), 510);
        Check.due("the other owes all", x.house(1, 8), 1023);
        x.say(1, 9);
        Check.due("what is SO is not owed", x.house(1, 8), 511);
        Check.sentence("LACKS: those not SO that it has not SEEN yet, as bits.");
        AllSawIt y = Told.watched(2, 10);
        Check.due("all at first", y.house(0, 9), 1023);
        y.away(0, true);
        y.done(0);
        y.done(9);
        Check.due("the one AWAY lacks all", y.house(0, 9), 1023);
        Check.due("the other all but two", y.house(1, 9), 510);
        y.away(0, false);
        y.done(9);
        Check.due("all but the last", y.house(0, 9), 511);
        AllSawIt so = Told.watched(1, 2);
        so.done(1);
        so.say(0, 1);
        so.lodger(0);
        Check.due("a LODGER lacks what is not SO", so.house(1, 9), 1);
        Check.due("without DEEDS", Told.watched(1, 0).house(0, 8) + Told.watched(1, 0).house(0, 9), 0);
    }

    private static void bribe() {
        Check.sentence("BRIBE of a DEED: SPITE of all HOUSES that have not SAID of it, together.");
        AllSawIt x = Told.watched(8, 2);
        Check.due("without SPITE", x.deed(0, 8), 0);
        for (int h = 0; h < 8; h++) {
            x.spite(h, 9);
        }
        Check.due("9 of all 8", x.deed(0, 8), 72);
        x.spite(0, 1);
        x.spite(7, 2);
        Check.due("told anew", x.deed(0, 8), 57);
        x.done(0);
        x.say(0, 0);
        Check.due("one SAID it", x.deed(0, 8), 56);
        x.say(7, 0);
        Check.due("two SAID it", x.deed(0, 8), 54);
        Check.due("of the other nobody", x.deed(1, 8), 57);
        for (int h = 1; h < 7; h++) {
            x.say(h, 0);
        }
        Check.due("all SAID it", x.deed(0, 8), 0);
        Check.due("without HOUSES", Told.watched(0, 1).deed(0, 8), 0);
    }

    private static void many(int houses, int due, int... rows) {
        AllSawIt x = Told.watched(houses, 0);
        Check.rows(x, rows);
        Check.due("sets", x.denied(false), due);
        Check.due("bytes left on the TAPE", Picture.tape(x), 0);
    }

    private static void sure(int houses, int due, int... rows) {
        AllSawIt x = Told.watched(houses, 0);
        Check.rows(x, rows);
        Check.due("SURE", x.denied(true), due);
        Check.due("bytes left on the TAPE", Picture.tape(x), 0);
    }

    private static void denied() {
        Check.sentence("DENIED: told are some rows of HOUSES (from one to another, by numbers, both too) and how "
                + "many of them did not see a thing: sets of HOUSES that fit: how many;");
        many(8, 1, 0, 7, 0);
        many(8, 8, 0, 7, 1);
        many(8, 70, 0, 7, 4);
        many(8, 8, 0, 7, 7);
        many(8, 1, 0, 7, 8);
        many(8, 0, 0, 7, 9);
        many(8, 0, 0, 7, 255);
        many(8, 128, 0, 0, 1);
        many(8, 128, 7, 7, 1);
        many(8, 128, 7, 7, 0);
        many(8, 0, 7, 7, 2);
        many(3, 2, 0, 1, 2);
        many(3, 2, 1, 2, 2);
        many(3, 4, 1, 1, 1);
        many(4, 2, 0, 1, 1, 2, 3, 0);
        many(4, 0, 0, 3, 1, 0, 1, 1, 2, 3, 1);
        many(4, 4, 0, 1, 1, 2, 3, 1, 0, 3, 2);
        many(4, 1, 0, 1, 1, 2, 3, 1, 1, 2, 0, 0, 0, 1, 0, 3, 2, 3, 3, 1);
    }

    private static void sure() {
        Check.sentence("SURE: those in all, as bits (0 without).");
        sure(8, 255, 0, 7, 8);
        sure(8, 0, 0, 7, 0);
        sure(8, 0, 0, 7, 9);
        sure(8, 0);
        sure(1, 0);
        sure(8, 0, 0, 6, 0);
        sure(8, 0, 1, 7, 0);
        sure(8, 1, 0, 0, 1);
        sure(8, 128, 7, 7, 1);
        sure(8, 0, 7, 7, 2);
        sure(3, 3, 0, 1, 2);
        sure(3, 0, 0, 1, 1);
        sure(3, 2, 0, 1, 1, 0, 0, 0);
        sure(1, 1, 0, 0, 1);
        sure(0, 0);
    }

    private static AllSawIt livedWith(int... rows) {
        AllSawIt x = Refusal.lived();
        Check.rows(x, rows);
        return x;
    }

    private static void notThat(String what, int... rows) {
        Class<IllegalArgumentException> wrong = IllegalArgumentException.class;
        Refusal.usingUp("denied, " + what, wrong, () -> livedWith(rows), x -> x.denied(false), 6);
        Refusal.usingUp("denied, sure, " + what, wrong, () -> livedWith(rows), x -> x.denied(true), 6);
        Refusal.usingUp("ask, " + what, wrong, () -> livedWith(rows), AllSawIt::ask, 6);
    }

    private static void that(String what, int... rows) {
        Refusal.answered("denied, " + what, x -> {
            Check.rows(x, rows);
            return x.denied(false);
        });
        Refusal.answered("ask, " + what, x -> {
            Check.rows(x, rows);
            return x.ask();
        });
    }

    private static void deniedCall() {
        Check.promise(30, "Uses the TAPE up: DENIED (of each three bytes: from, to, how many; at most 36 bytes): how "
                + "many sets (sure false), or SURE, as bits.");
        for (int length = 0; length <= 41; length++) {
            if (length % 3 == 0 && length <= 36) {
                that(length + " bytes", new int[length]);
            } else {
                notThat(length + " bytes", new int[length]);
            }
        }
        notThat("399 bytes", new int[399]);
        notThat("400 bytes", new int[400]);
        int[] twelve = new int[36];
        twelve[35] = 1;
        many(3, 0, twelve);
        twelve[33] = 1;
        twelve[34] = 2;
        many(3, 2, twelve);
        AllSawIt x = Told.watched(3, 0);
        Check.rows(x, 0, 2, 1);
        String was = Picture.state(x);
        x.denied(false);
        Check.same("asking changes nothing but the TAPE", Picture.state(x), was);
        Check.promise(30, "IllegalArgumentException: the TAPE is not that (from is above to, there is no such HOUSE; "
                + "none may be told).");
        that("from is to", 2, 2, 1);
        notThat("from is above to", 2, 1, 1);
        notThat("from is above to, both are none", 9, 8, 1);
        notThat("from is above to, from is none", 3, 2, 1);
        that("to is the last HOUSE", 0, 2, 1);
        notThat("to is one more", 0, 3, 1);
        notThat("both are one more", 3, 3, 0);
        notThat("to is 128", 0, 128, 1);
        notThat("to is 255", 0, 255, 1);
        notThat("from is 255", 255, 2, 1);
        notThat("both are 255", 255, 255, 1);
        notThat("the last row", 0, 0, 1, 0, 1, 1, 2, 1, 1);
        notThat("the first row", 2, 1, 1, 0, 1, 1);
        that("how many is more than there are", 0, 2, 255);
        that("none told");
        many(8, 256);
        many(1, 2);
        many(0, 1);
        Refusal.usingUp("a row without HOUSES", IllegalArgumentException.class, () -> {
            AllSawIt none = new AllSawIt();
            Check.rows(none, 0, 0, 0);
            return none;
        }, none -> none.denied(false), -1);
    }

    private static void asked(int houses, int due, int... rows) {
        AllSawIt x = Told.watched(houses, 0);
        Check.rows(x, rows);
        Check.due("ASK", x.ask(), due);
        Check.due("bytes left on the TAPE", Picture.tape(x), 0);
    }

    private static void ask() {
        Check.sentence("ASK: the HOUSE by which these are parted (in, or not) so that the greater part is the least "
                + "(of several the least; none with fewer than two).");
        asked(8, 0);
        asked(1, 0);
        asked(0, -1);
        asked(1, -1, 0, 0, 1);
        asked(1, -1, 0, 0, 2);
        asked(8, -1, 0, 7, 8);
        asked(8, -1, 0, 7, 0);
        asked(8, -1, 0, 7, 9);
        asked(8, 7, 0, 6, 7);
        asked(8, 7, 0, 6, 0);
        asked(8, 0, 0, 7, 1);
        asked(8, 0, 1, 7, 0);
        asked(3, 1, 0, 0, 1);
        // One of 0 to 2, each with a third; 3 is in just half of all.
        asked(4, 3, 0, 2, 1);
        // Two of 0 to 2, and one of 3 and 4.
        asked(5, 3, 0, 2, 2, 3, 4, 1);
        // Two sets, parted by 1 and 2 alike.
        asked(3, 1, 0, 0, 1, 1, 2, 1);
    }

    private static void askCall() {
        Check.promise(31, "Uses the TAPE up: ASK (the TAPE likewise); NONE. IllegalArgumentException: the TAPE is "
                + "not that.");
        that("36 bytes", new int[36]);
        notThat("39 bytes", new int[39]);
        asked(3, -1, 0, 2, 4);
        asked(3, -1, 0, 2, 3);
        asked(3, 0, 0, 2, 2);
        AllSawIt x = Told.watched(3, 0);
        Check.rows(x, 0, 2, 1);
        String was = Picture.state(x);
        x.ask();
        Check.same("asking changes nothing but the TAPE", Picture.state(x), was);
        Check.due("with the TAPE used up none are told", x.denied(false), 8);
    }

    private static void book() {
        Check.sentence("BOOK: DEEDS that are SO, as bits. HALF: DEEDS not SO that some HOUSE SAW, as bits.");
        AllSawIt x = Told.watched(8, 10);
        Check.due("BOOK at first", x.book(false), 0);
        Check.due("HALF at first", x.book(true), 0);
        for (int h = 0; h < 7; h++) {
            x.away(h, true);
        }
        x.done(9);
        Check.due("one is enough for HALF", x.book(true), 512);
        x.away(7, true);
        x.done(0);
        Check.due("none is not", x.book(true), 512);
        for (int h = 0; h < 8; h++) {
            x.away(h, false);
        }
        x.days(1);
        Check.due("all are SO", x.book(false), 1023);
        Check.due("none is HALF", x.book(true), 0);
        Check.promise(35, "BOOK (half false), or HALF, as bits.");
        Check.due("BOOK without DEEDS", Told.watched(1, 0).book(false), 0);
        Check.due("HALF without DEEDS", Told.watched(1, 0).book(true), 0);
        AllSawIt y = Told.watched(1, 2);
        y.done(0);
        y.done(1);
        y.say(0, 1);
        Check.due("BOOK", y.book(false), 2);
        Check.due("HALF", y.book(true), 1);
    }
}
