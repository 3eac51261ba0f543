/** The boundaries of DAYS, DRAWS, what is SO, AHEAD, SOONEST, LATER, TRIAL and SPAN, sentence by sentence. */
public final class DaysBoundsTest {
    private static final String EYE = "house 12 sees 0 to 23 up 0 for 24";
    private static final int[] FAR = {Integer.MIN_VALUE, Integer.MAX_VALUE};

    private DaysBoundsTest() {
    }

    public static void main(String[] args) {
        fogOfADay();
        deedsOfADay();
        pump();
        askedAtTheEnd();
        lastDay();
        draw();
        drawForEach();
        whatIsSo();
        ahead();
        aheadCall();
        soonest();
        soonestCall();
        later();
        trial();
        span();
        daysCall();
        Check.end();
    }

    private static void fogOfADay() {
        Check.sentence("A DAY more: FOG is DRAW modulo 10, MISTS at most.");
        for (int mists = 0; mists <= 9; mists++) {
            AllSawIt x = Check.street("mists " + mists);
            for (int draw : new int[] {0, 1, 2, 3, 4, 5, 6, 7, 8, 9, 10, 19, 20, 32759, 32760, 32767}) {
                x.seed(Told.seedDrawing(draw));
                x.days(1);
                Check.due("FOG of " + draw + " by MISTS " + mists, x.count(5), Math.min(draw % 10, mists));
            }
        }
    }

    private static void deedsOfADay() {
        Check.sentence("Each DEED that is not SO, by numbers, if it hangs on none, or on one that is SO by then: it "
                + "is DONE");
        AllSawIt x = Check.street(EYE + ";deed 1 at 1;deed 2 at 2 hangs 0;deed 3 at 3 hangs 1;deed 4 at 4");
        x.days(1);
        Check.due("those that hang on none are", x.book(false), 0b1001);
        Check.due("what is SO at the end of the DAY comes too late", x.deed(1, 3), 0);
        x.days(1);
        Check.due("the next DAY it is", x.deed(1, 3), 1);
        Check.due("the one behind it is not", x.deed(2, 3), 0);
        x.lodger(0);
        x.days(1);
        Check.due("what is SO is not DONE again", x.deed(0, 3), 1);
        Check.due("the others are", x.deed(2, 3), 3);
        AllSawIt none = new AllSawIt();
        Check.due("without DEEDS", none.days(1), 0);
        Check.sentence("HOUSES that SEE its PLACE in its HOUR SAW it (those who did stay so).");
        AllSawIt y = Check.street("house 1 sees 1 to 1 up 5 for 1 spite 9;house 2 sees 0 to 2 up 0 for 24 spite 9;deed 1 at 5;"
                + "deed 1 at 6;deed 2 at 5");
        y.days(1);
        Check.due("in the PLACE, in the HOUR", y.deed(0, 3), 3);
        Check.due("in another HOUR", y.deed(1, 3), 2);
        Check.due("in another PLACE", y.deed(2, 3), 2);
        y.up(0, 6, 1);
        y.away(1, true);
        y.days(1);
        Check.due("who SAW it ahead stay so", y.deed(0, 3), 3);
        Check.due("who SEES it now, too", y.deed(1, 3), 3);
    }

    private static void pump() {
        Check.sentence("each HOUSE, by numbers, not AWAY: DRAW modulo 10 below its SPITE: it holds its tongue;");
        for (int spite = 0; spite <= 9; spite++) {
            for (int draw : new int[] {0, 1, 2, 3, 4, 5, 6, 7, 8, 9, 10, 32759, 32767}) {
                AllSawIt x = Check.street(EYE + " spite " + spite + ";deed 12 at 1");
                x.seed(Told.seedDrawingSecond(draw));
                Check.due("words by SPITE " + spite + ", DRAW " + draw, x.days(1), draw % 10 < spite ? 0 : 1);
            }
        }
        AllSawIt x = Check.street(EYE + " spite 9;" + EYE + " spite 9;" + EYE + " spite 9;away 1;deed 12 at 1");
        // From 1 on the seeds are tried until the first is silent and the last speaks, by 9 alone.
        int seed = 1;
        while (drawn(seed, 2) % 10 >= 9 || drawn(seed, 3) % 10 < 9) {
            seed++;
        }
        x.seed(seed);
        x.days(1);
        Check.due("by numbers, and none for the one AWAY", x.deed(0, 4), 4);
        Check.due("the one AWAY, however clear", x.deed(0, 3) & 2, 0);
        Check.sentence("else it SAID of all DEEDS that it SAW.");
        AllSawIt all = Told.watched(1, 10);
        Check.due("of all 10", all.days(1), 10);
        AllSawIt some = Check.street(EYE + ";" + EYE + ";deed 12 at 1;deed 11 at 1 hangs 0;deed 10 at 1 hangs 0");
        some.done(1);
        some.away(0, true);
        some.done(2);
        some.away(0, false);
        Check.due("also of those that were DONE by hand", some.days(1), 5);
        Check.due("of what it did not SEE it says nothing", some.deed(2, 4), 2);
        AllSawIt gone = Check.street(EYE + ";deed 12 at 1");
        gone.done(0);
        gone.away(0, true);
        Check.due("one AWAY says nothing of what it SAW", gone.days(60), 0);
    }

    /** The DRAW that is the n-th from a SEED. */
    private static int drawn(int seed, int n) {
        int s = seed;
        for (int i = 0; i < n; i++) {
            s = 1103515245 * s + 12345;
        }
        return s >>> 16 & 0x7fff;
    }

    private static void askedAtTheEnd() {
        Check.sentence("Then all is asked anew what is SO.");
        AllSawIt x = Check.street(EYE + ";" + EYE + ";deed 12 at 1;deed 11 at 1 hangs 0;deed 10 at 1 hangs 1");
        x.done(1);
        x.done(2);
        x.days(1);
        Check.due("all three at once", x.book(false), 7);
    }

    private static void lastDay() {
        Check.sentence("DAY is 1 more (9999 at most).");
        AllSawIt x = Check.street(EYE + ";" + EYE + ";" + EYE + ";" + EYE + ";deed 12 at 1",
                "see if day > " + "999+".repeat(10) + "8");
        for (int n = 0; n < 166; n++) {
            x.days(60);
        }
        x.days(38);
        Check.due("a DAY ahead of the last", x.count(4), 9998);
        Check.due("the law of the last DAY does not hold yet", x.sees(0, 12, 1), false);
        Check.due("ahead of two DAYS", x.ahead(1, 0), 0);
        Check.due("by the second", x.ahead(2, 0), 1);
        Check.due("nobody SAW a thing", x.days(1), 0);
        Check.due("the last", x.count(4), 9999);
        Check.due("it holds", x.sees(0, 12, 1), true);
        x.done(0);
        x.say(0, 0);
        Check.due("the DAY of a word", x.log(0, 0), 9999);
        Check.due("the others say it", x.days(1), 3);
        Check.due("the last stays", x.count(4), 9999);
        Check.due("the DAY of their words", x.log(0, 0), 9999);
        x.days(60);
        Check.due("the last stays", x.count(4), 9999);
        Check.due("it still holds", x.sees(0, 12, 1), true);
        x.undo();
        Check.due("the last stays", x.count(4), 9999);
    }

    private static void draw() {
        Check.sentence("DRAW: SEED is 1103515245 times SEED and 12345, as an int that goes round; bits 16 to 30 "
                + "(SEED 1 at first).");
        AllSawIt x = Check.street("mists 9");
        Check.due("SEED at first", x.seed(1), 1);
        // With nobody there a DAY takes one DRAW.
        for (int next : new int[] {0, 1, 0xffff, 0x10000, 0x1ffff, 0x7fff0000, 0x7fffffff, 0x80000000, 0x80010000, 0xffffffff,
            0x00090000, 0x80090000, 0x40000000, 0xc0000000}) {
            x.seed(Told.seedAhead(next));
            x.days(1);
            Check.due("SEED", Picture.seed(x), next);
            Check.due("FOG of " + next, x.count(5), (next >>> 16 & 0x7fff) % 10);
        }
        for (int seed : new int[] {0, 1, -1, Integer.MAX_VALUE, Integer.MIN_VALUE, 2}) {
            x.seed(seed);
            x.days(1);
            long wide = 1103515245L * seed + 12345L;
            Check.due("SEED behind " + seed, Picture.seed(x), (int) wide);
        }
    }

    private static void drawForEach() {
        Check.sentence("(A DRAW for each HOUSE not AWAY, also with SPITE 0.)");
        for (int away = 0; away <= 8; away++) {
            AllSawIt x = Told.watched(8, 0);
            x.spite(0, 5);
            for (int h = 8 - away; h < 8; h++) {
                x.away(h, true);
            }
            x.seed(1);
            x.days(2);
            int s = 1;
            for (int n = 0; n < 2 * (9 - away); n++) {
                s = 1103515245 * s + 12345;
            }
            Check.due("SEED with " + away + " AWAY", x.seed(1), s);
        }
    }

    private static void whatIsSo() {
        Check.sentence("WHAT IS SO, asked anew: each DEED, by numbers: as each HOUSE that there is (one at least) "
                + "SAID of it, and it hangs on none, or on one that is SO: it is SO from then on.");
        AllSawIt nobody = Check.street("deed 12 at 1;deed 12 at 1 hangs 0");
        nobody.days(60);
        Check.due("without HOUSES nothing is SO", nobody.book(false), 0);
        Check.due("nor ahead", nobody.ahead(40, 0), 0);
        AllSawIt one = Told.watched(1, 1);
        one.done(0);
        Check.due("one is enough", one.say(0, 0), true);
        AllSawIt eight = Told.watched(8, 1);
        eight.done(0);
        for (int h = 7; h >= 0; h--) {
            Check.due("it wants all 8", eight.say(h, 0), h == 0);
        }
        one.lodger(0);
        Check.due("from then on, as a LODGER comes", one.deed(0, 5), 1);
        Check.tell(one, "house 1 sees 1 to 1 up 1 for 1");
        one.street();
        Check.due("as a HOUSE is told", one.deed(0, 5), 1);
        one.days(5);
        Check.due("as DAYS go by", one.deed(0, 5), 1);
        AllSawIt chain = Check.street(EYE + ";deed 12 at 0" + chainOf(9));
        for (int d = 9; d >= 0; d--) {
            chain.done(d);
            Check.due("what hangs waits", chain.say(0, d), d == 0);
            Check.due("then all that hang are SO", chain.book(false), d == 0 ? 1023 : 0);
        }
        AllSawIt late = Told.watched(1, 1);
        late.done(0);
        late.lodger(0);
        Check.due("the LODGER is there", late.say(0, 0), false);
        late.undo();
        late.undo();
        Check.due("it is not there", late.say(0, 0), true);
    }

    /** Deeds, each of which hangs on the one ahead of it. */
    private static String chainOf(int n) {
        StringBuilder all = new StringBuilder();
        for (int d = 0; d < n; d++) {
            all.append(";deed 12 at 0 hangs ").append(d);
        }
        return all.toString();
    }

    private static void ahead() {
        Check.sentence("AHEAD by N DAYS (0 to 40) of a told FOG: as so many DAYS of that FOG without DRAWS, nobody "
                + "holding the tongue.");
        AllSawIt x = Check.street(EYE + " spite 9;" + EYE + " spite 9;deed 12 at 0" + chainOf(9));
        x.seed(3);
        String was = Picture.all(x);
        for (int n = 0; n <= 40; n++) {
            Check.due("by " + n, x.ahead(n, 0), (1 << Math.min(n, 10)) - 1);
        }
        Check.same("nothing stays", Picture.all(x), was);
        AllSawIt y = Check.street("house 0 sees 0 to 23 up 0 for 24;deed 3 at 0;deed 4 at 0;deed 12 at 0;deed 13 at 0");
        Check.due("of FOG 9, whatever the MISTS", y.ahead(40, 9), 1);
        Check.due("of FOG 8", y.ahead(40, 8), 3);
        Check.due("of FOG 0", y.ahead(40, 0), 7);
        AllSawIt z = Check.street(EYE + ";deed 12 at 0", "see if day > 38 and fog > 8");
        Check.due("39 DAYS are too few", z.ahead(39, 9), 0);
        Check.due("40 are enough", z.ahead(40, 9), 1);
        Check.due("not of another FOG", z.ahead(40, 8), 0);
        z.away(0, true);
        Check.due("one AWAY says nothing", z.ahead(40, 9), 0);
        AllSawIt misty = Check.street("house 0 sees 0 to 23 up 0 for 24;deed 12 at 0;mists 9");
        Told.foggyDay(misty, 9);
        Check.due("the FOG of before does not matter", misty.ahead(1, 0), 1);
    }

    private static void aheadCall() {
        Check.promise(27, "AHEAD: DEEDS that are SO, as bits. IllegalArgumentException: N or the FOG are none.");
        for (int n : new int[] {0, 40}) {
            Refusal.answered("ahead " + n, x -> x.ahead(n, 0));
            Refusal.answered("ahead of FOG 9, " + n, x -> x.ahead(n, 9));
        }
        for (int n : new int[] {-1, 41, FAR[0], FAR[1]}) {
            Refusal.noNumber("ahead " + n, x -> x.ahead(n, 0));
        }
        for (int fog : new int[] {-1, 10, FAR[0], FAR[1]}) {
            Refusal.noNumber("ahead of FOG " + fog, x -> x.ahead(1, fog));
            Refusal.noNumber("ahead 0 of FOG " + fog, x -> x.ahead(0, fog));
            Refusal.noNumber("ahead 41 of FOG " + fog, x -> x.ahead(41, fog));
        }
        Check.due("without DEEDS", Told.watched(1, 0).ahead(40, 0), 0);
        AllSawIt so = Told.watched(1, 2);
        so.done(1);
        so.say(0, 1);
        Check.due("by none: those that are SO", so.ahead(0, 0), 2);
    }

    private static void soonest() {
        Check.sentence("SOONEST: the first N (1 to 40) AHEAD of a told FOG by which a DEED is SO (0, if it is); none.");
        AllSawIt x = Check.street(EYE + ";deed 12 at 0" + chainOf(9) + ";mists 9");
        String was = Picture.all(x);
        for (int d = 0; d <= 9; d++) {
            Check.due("DEED " + d, x.soonest(d, 0), d + 1);
        }
        Check.same("nothing stays", Picture.all(x), was);
        x.done(3);
        x.say(0, 3);
        Check.due("said, but it hangs", x.soonest(3, 0), 3);
        x.days(2);
        Check.due("0, if it is SO", x.soonest(0, 9), 0);
        Check.due("2 less now", x.soonest(9, 0), 8 - 1);
        AllSawIt y = Check.street(EYE + ";deed 12 at 0", "see if day > 38");
        Check.due("the 40th", y.soonest(0, 0), 40);
        Check.tell(y, "see if day > 39");
        y.law();
        Check.due("the 41st is none", y.soonest(0, 0), -1);
        Check.due("without HOUSES none", Told.watched(0, 1).soonest(0, 0), -1);
        AllSawIt z = Check.street("house 0 sees 0 to 23 up 0 for 24;deed 4 at 0");
        Check.due("by FOG 8", z.soonest(0, 8), 1);
        Check.due("by FOG 9", z.soonest(0, 9), -1);
        z.away(0, true);
        Check.due("while one is AWAY", z.soonest(0, 0), -1);
    }

    private static void soonestCall() {
        Check.promise(26, "SOONEST; NONE. IllegalArgumentException: the FOG is none.");
        for (int fog : new int[] {0, 9}) {
            Refusal.answered("FOG " + fog, x -> x.soonest(0, fog));
        }
        for (int fog : new int[] {-1, 10, FAR[0], FAR[1]}) {
            Refusal.noNumber("FOG " + fog, x -> x.soonest(0, fog));
            Refusal.noSuch("no DEED, FOG " + fog, x -> x.soonest(3, fog));
        }
    }

    private static void later() {
        Check.sentence("LATER, of a told FOG: the greatest SOONEST of all DEEDS that have one (0 without).");
        AllSawIt x = Check.street(EYE + ";deed 12 at 0" + chainOf(9));
        Check.due("of all 10", x.later(0), 10);
        x.days(10);
        Check.due("all are SO", x.later(0), 0);
        Check.due("without DEEDS", Told.watched(8, 0).later(0), 0);
        Check.due("without HOUSES", Told.watched(0, 10).later(0), 0);
        AllSawIt y = Check.street(EYE + ";deed 12 at 0;deed 11 at 0;deed 10 at 0;mists 9",
                "see if place > 11;see if place > 10 and day > 38;see if place > 9 and day > 39");
        Check.due("40, as the 41st is none", y.later(0), 40);
        AllSawIt z = Check.street("house 0 sees 0 to 23 up 0 for 24;deed 3 at 0;deed 5 at 0 hangs 0");
        Check.due("by FOG 7", z.later(7), 2);
        Check.due("by FOG 8 one has none", z.later(8), 1);
        Check.due("by FOG 9", z.later(9), 1);
        Check.promise(28, "LATER. IllegalArgumentException: the FOG is none.");
        Refusal.answered("FOG 0", a -> a.later(0));
        Refusal.answered("FOG 9", a -> a.later(9));
        for (int fog : new int[] {-1, 10, FAR[0], FAR[1]}) {
            Refusal.noNumber("FOG " + fog, a -> a.later(fog));
        }
    }

    private static AllSawIt spiteful() {
        return Check.street("house 2 sees 0 to 5 up 6 for 12 spite 7;house 4 sees 3 to 9 up 8 for 10 spite 9;"
                + "house 10 sees 2 to 12 up 20 for 14 spite 5;deed 4 at 9;deed 5 at 9 hangs 0;deed 20 at 9;mists 9");
    }

    private static void trial() {
        Check.sentence("TRIAL of N DAYS (0 to 40) from now (draws, too; nothing stays): DEEDS that are SO then, as "
                + "bits; words that were said.");
        AllSawIt x = spiteful();
        x.seed(-77);
        x.days(3);
        x.image();
        for (int n : new int[] {0, 1, 2, 7, 39, 40}) {
            String was = Picture.all(x);
            int book = x.trial(n, false);
            int words = x.trial(n, true);
            Check.same("nothing stays", Picture.all(x), was);
            if (n > 0) {
                Check.due("words of " + n, words, x.days(n));
                Check.due("SO by " + n, book, x.book(false));
                x.back();
            } else {
                Check.due("words of none", words, 0);
                Check.due("SO by none", book, x.book(false));
            }
        }
        Check.due("without HOUSES", Told.watched(0, 1).trial(40, true), 0);
        Check.due("without DEEDS", Told.watched(1, 0).trial(40, false), 0);
        AllSawIt late = Check.street(EYE + ";deed 12 at 0", "see if day > 38");
        Check.due("39 DAYS are too few", late.trial(39, false), 0);
        Check.due("40 are enough", late.trial(40, false), 1);
        Check.due("40 are enough for a word", late.trial(40, true), 1);
        Check.promise(36, "TRIAL: DEEDS, as bits (words false), or words. IllegalArgumentException: N is none.");
        for (int n : new int[] {0, 40}) {
            Refusal.answered("trial " + n, a -> a.trial(n, false));
            Refusal.answered("trial, words " + n, a -> a.trial(n, true));
        }
        for (int n : new int[] {-1, 41, FAR[0], FAR[1]}) {
            Refusal.noNumber("trial " + n, a -> a.trial(n, false));
            Refusal.noNumber("trial, words " + n, a -> a.trial(n, true));
        }
    }

    private static void span() {
        Check.sentence("SPAN: the fewest and the most words from SEED 1, 2, .. 6.");
        AllSawIt x = spiteful();
        x.seed(-77);
        x.days(1);
        boolean parted = false;
        for (int n : new int[] {0, 1, 2, 3, 5, 39, 40}) {
            int fewest = 1000;
            int most = -1;
            int seed = Picture.seed(x);
            for (int s = 1; s <= 6; s++) {
                x.seed(s);
                fewest = Math.min(fewest, x.trial(n, true));
                most = Math.max(most, x.trial(n, true));
            }
            x.seed(seed);
            parted |= fewest != most;
            String was = Picture.all(x);
            Check.due("the fewest of " + n, x.span(n, false), fewest);
            Check.due("the most of " + n, x.span(n, true), most);
            Check.same("nothing stays", Picture.all(x), was);
        }
        Check.yes("the seeds part", parted);
        onlySeed(1, true);
        onlySeed(6, false);
        // Neither SEED 0 nor 7 counts: each of them would part from all of 1 to 6.
        outsider(0);
        outsider(7);
        Check.due("without DEEDS", Told.watched(1, 0).span(40, true), 0);
        Check.promise(37, "SPAN: the fewest (most false), or the most. IllegalArgumentException: N is none.");
        for (int n : new int[] {0, 40}) {
            Refusal.answered("span " + n, a -> a.span(n, false));
            Refusal.answered("span, most " + n, a -> a.span(n, true));
        }
        for (int n : new int[] {-1, 41, FAR[0], FAR[1]}) {
            Refusal.noNumber("span " + n, a -> a.span(n, false));
            Refusal.noNumber("span, most " + n, a -> a.span(n, true));
        }
    }

    /** Of the seeds 1 to 6 this one alone speaks, or is silent. */
    private static void onlySeed(int seed, boolean speaks) {
        for (int day = 0; day < 40; day++) {
            for (int spite = 1; spite <= 9; spite++) {
                if (speaking(day, spite) == (speaks ? 1 << seed : 126 - (1 << seed))) {
                    AllSawIt x = speaker(day, spite);
                    Check.due("the most, by SEED " + seed, x.span(day + 1, true), 1);
                    Check.due("the fewest, by SEED " + seed, x.span(day + 1, false), 0);
                    return;
                }
            }
        }
        Check.note("nothing parts SEED " + seed);
    }

    /** All of the seeds 1 to 6 speak, or are silent, but this one, which does not count, would not. */
    private static void outsider(int seed) {
        for (int day = 0; day < 40; day++) {
            for (int spite = 1; spite <= 9; spite++) {
                boolean speaks = drawn(seed, 2 * day + 2) % 10 >= spite;
                if (speaking(day, spite) == (speaks ? 0 : 126)) {
                    AllSawIt x = speaker(day, spite);
                    Check.due("the most without SEED " + seed, x.span(day + 1, true), speaks ? 0 : 1);
                    Check.due("the fewest without SEED " + seed, x.span(day + 1, false), speaks ? 0 : 1);
                    return;
                }
            }
        }
        Check.note("nothing parts SEED " + seed);
    }

    /** By which of the seeds 1 to 6 the only HOUSE speaks on that DAY, as bits. */
    private static int speaking(int day, int spite) {
        int seeds = 0;
        for (int s = 1; s <= 6; s++) {
            seeds |= drawn(s, 2 * day + 2) % 10 >= spite ? 1 << s : 0;
        }
        return seeds;
    }

    /** One HOUSE, and one DEED that can be seen from that DAY on. */
    private static AllSawIt speaker(int day, int spite) {
        return Check.street(EYE + " spite " + spite + ";deed 12 at 0", "see if day + 1 > " + day);
    }

    private static void daysCall() {
        Check.promise(17, "So many DAYS more (1 to 60): words that were said first. IllegalArgumentException: they "
                + "are none.");
        AllSawIt x = Told.watched(8, 10);
        Check.due("all that can be said", x.days(1), 80);
        Check.due("DAY", x.count(4), 1);
        Check.due("nothing is said twice", x.days(60), 0);
        Check.due("DAY", x.count(4), 61);
        Check.due("without HOUSES", new AllSawIt().days(60), 0);
        AllSawIt y = Told.watched(2, 2);
        y.done(0);
        y.say(0, 0);
        Check.due("what was said by hand does not count", y.days(1), 3);
        for (int n : new int[] {0, -1, 61, FAR[0], FAR[1]}) {
            Refusal.noNumber("days " + n, a -> a.days(n));
        }
    }
}
