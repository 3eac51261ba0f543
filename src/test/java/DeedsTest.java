/** Promises 26 to 31 and 35 to 37: days ahead, what is told, the book, trials and spans. */
public final class DeedsTest {
    private static final Class<IndexOutOfBoundsException> NO_SUCH = IndexOutOfBoundsException.class;
    private static final Class<IllegalArgumentException> NO_NUMBER = IllegalArgumentException.class;
    private static final int[] ODD = {-1, 41, 1000, Integer.MIN_VALUE, Integer.MAX_VALUE};
    private static final int[] NO_FOG = {-1, 10, Integer.MIN_VALUE, Integer.MAX_VALUE};
    private static final String CHAIN = "house 2 sees 0 to 5 up 6 for 12;house 4 sees 3 to 9 up 8 for 10 spite 9;"
            + "house 10 sees 2 to 12 up 20 for 14;deed 4 at 9;deed 5 at 9 hangs 0;deed 20 at 9;deed 5 at 8 hangs 1;"
            + "deed 3 at 9 hangs 2";

    private DeedsTest() {
    }

    public static void main(String[] args) {
        soonest();
        ahead();
        later();
        holds();
        denied();
        ask();
        book();
        trial();
        span();
        Check.end();
    }

    private static void soonest() {
        Check.part("promise 26");
        AllSawIt x = Check.street(CHAIN);
        Check.due("first", x.soonest(0, 0), 1);
        Check.due("what hangs on it", x.soonest(1, 0), 2);
        Check.due("what hangs on that", x.soonest(3, 0), 3);
        Check.due("what nobody sees", x.soonest(2, 0), -1);
        Check.due("what hangs on that", x.soonest(4, 0), -1);
        Check.due("in fog", x.soonest(0, 6), 1);
        Check.due("in more fog", x.soonest(0, 7), -1);
        Check.due("in more fog, nearer", x.soonest(1, 7), -1);
        x.seed(1);
        x.spite(1, 0);
        x.days(1);
        Check.due("it is so", x.soonest(0, 9), 0);
        Check.due("one nearer", x.soonest(1, 0), 1);
        x.away(0, true);
        Check.due("one is away", x.soonest(1, 0), -1);
        AllSawIt y = Check.street("house 1 sees 0 to 9 up 0 for 24;deed 1 at 1", "see if day > 38");
        Check.due("by day 39: the 40th", y.soonest(0, 0), 40);
        Check.due("nothing stays", y.count(4), 0);
        AllSawIt z = Check.street("house 1 sees 0 to 9 up 0 for 24;deed 1 at 1", "see if day > 39");
        Check.due("the 41st is too late", z.soonest(0, 0), -1);
        for (int odd : ODD) {
            Check.refused("deed", NO_SUCH, () -> x.soonest(odd, 99));
        }
        Check.refused("deed 5", NO_SUCH, () -> x.soonest(5, 0));
        for (int fog : NO_FOG) {
            Check.refused("fog", NO_NUMBER, () -> x.soonest(0, fog));
        }
    }

    private static void ahead() {
        Check.part("promise 27");
        AllSawIt x = Check.street(CHAIN);
        int seed = x.seed(77);
        Check.due("seed", seed, 1);
        Check.due("none", x.ahead(0, 0), 0);
        Check.due("1", x.ahead(1, 0), 1);
        Check.due("2", x.ahead(2, 0), 3);
        Check.due("3", x.ahead(3, 0), 11);
        Check.due("40", x.ahead(40, 0), 11);
        Check.due("in fog", x.ahead(40, 7), 0);
        Check.due("no draws are made", x.seed(77), 77);
        Check.due("nothing stays", x.book(true), 0);
        Check.due("no day goes by", x.count(4), 0);
        Check.due("no fog stays", x.count(5), 0);
        Check.due("no act", x.count(12), 0);
        for (int odd : ODD) {
            Check.refused("n", NO_NUMBER, () -> x.ahead(odd, 0));
        }
        for (int fog : NO_FOG) {
            Check.refused("fog", NO_NUMBER, () -> x.ahead(1, fog));
        }
        AllSawIt y = Check.street("house 1 sees 0 to 9 up 0 for 24;deed 1 at 1;mists 2", "see if fog > 4");
        Check.due("mists do not matter for a told fog", y.ahead(1, 5), 1);
        AllSawIt z = Check.street("house 1 sees 0 to 9 up 0 for 24;house 1 sees 0 to 9 up 0 for 24;deed 1 at 1");
        z.done(0);
        z.away(1, true);
        Check.due("one away says nothing", z.ahead(9, 0), 0);
        z.away(1, false);
        Check.due("one back says it", z.ahead(1, 9), 1);
    }

    private static void later() {
        Check.part("promise 28");
        AllSawIt x = Check.street(CHAIN);
        Check.due("of all that have one", x.later(0), 3);
        Check.due("in fog", x.later(6), 3);
        Check.due("in more fog", x.later(7), 0);
        Check.due("without deeds", new AllSawIt().later(0), 0);
        x.spite(1, 0);
        x.days(2);
        Check.due("two are so", x.later(0), 1);
        x.days(1);
        Check.due("all are so that can be", x.later(0), 0);
        AllSawIt y = Check.street("house 1 sees 0 to 9 up 0 for 24;deed 1 at 1", "see if day > 38");
        Check.due("40 at most", y.later(0), 40);
        for (int fog : NO_FOG) {
            Check.refused("fog", NO_NUMBER, () -> x.later(fog));
        }
    }

    private static void holds() {
        Check.part("promise 29");
        AllSawIt x = Check.street("house 1 sees 0 to 9 up 0 for 24;house 2 sees 0 to 9 up 0 for 24;"
                + "house 3 sees 0 to 9 up 0 for 24;deed 1 at 1;deed 2 at 1;deed 3 at 1");
        Check.due("of several the least", x.holds(), 0);
        x.done(0);
        x.done(1);
        x.say(0, 0);
        Check.due("the next", x.holds(), 1);
        x.say(1, 0);
        Check.due("the last", x.holds(), 2);
        x.say(1, 1);
        x.say(2, 1);
        Check.due("1 lacks one, 0 and 2 lack two", x.holds(), 0);
        x.say(2, 0);
        Check.due("deed 0 is so: 0 lacks two, 1 and 2 one", x.holds(), 0);
        Check.due("houses without deeds", Check.street("house 1 sees 1 to 1 up 1 for 1").holds(), 0);
        Check.due("without houses", Check.street("deed 1 at 1").holds(), -1);
        AllSawIt y = Check.street("house 1 sees 0 to 9 up 0 for 24;deed 1 at 1;deed 2 at 1");
        y.days(1);
        y.lodger(0);
        Check.due("what is so is not held up", y.holds(), 0);
    }

    private static AllSawIt houses(int n) {
        AllSawIt x = new AllSawIt();
        for (int i = 0; i < n; i++) {
            if (i == 0) {
                x = Check.street("house 1 sees 1 to 1 up 1 for 1");
            } else {
                x.lodger(0);
            }
        }
        return x;
    }

    private static void denied(AllSawIt x, int many, int sure, int... rows) {
        Check.rows(x, rows);
        Check.due("how many", x.denied(false), many);
        Check.due("used up", x.end(1), false);
        Check.rows(x, rows);
        Check.due("sure", x.denied(true), sure);
        Check.due("used up", x.end(1), false);
    }

    private static void denied() {
        Check.part("promise 30");
        AllSawIt x = houses(3);
        denied(x, 3, 0, 0, 2, 1);
        denied(x, 2, 0, 0, 1, 0);
        denied(x, 1, 7, 0, 2, 3);
        denied(x, 0, 0, 0, 2, 4);
        denied(x, 0, 0, 0, 2, 200);
        denied(x, 1, 0, 0, 2, 0);
        denied(x, 8, 0);
        denied(x, 2, 2, 0, 1, 1, 1, 1, 1);
        denied(x, 0, 0, 0, 0, 1, 0, 0, 0);
        denied(x, 2, 0, 0, 1, 1, 1, 2, 1);
        denied(x, 1, 5, 0, 1, 1, 1, 2, 1, 0, 2, 2);
        denied(new AllSawIt(), 1, 0);
        denied(houses(8), 256, 0);
        denied(houses(8), 70, 0, 0, 7, 4);
        denied(houses(8), 1, 0x80, 7, 7, 1, 0, 6, 0);
        int[] most = new int[36];
        denied(x, 4, 0, most);
        denied(x, 4, 1, 0, 0, 1);
        wrongRows(x, 0, 3, 1);
        wrongRows(x, 1, 0, 1);
        wrongRows(x, 3, 3, 1);
        wrongRows(x, 0, 200, 1);
        wrongRows(x, 200, 201, 1);
        wrongRows(x, 0);
        wrongRows(x, 0, 0);
        wrongRows(x, 0, 0, 1, 0);
        wrongRows(x, 0, 0, 1, 2, 1, 1);
        wrongRows(x, new int[39]);
        wrongRows(x, new int[37]);
        wrongRows(new AllSawIt(), 0, 0, 0);
    }

    private static void wrongRows(AllSawIt x, int... rows) {
        Check.rows(x, rows);
        Check.refused("how many", NO_NUMBER, () -> x.denied(false));
        Check.due("used up", x.end(1), false);
        Check.rows(x, rows);
        Check.refused("sure", NO_NUMBER, () -> x.denied(true));
        Check.due("used up", x.end(1), false);
        Check.rows(x, rows);
        Check.refused("ask", NO_NUMBER, x::ask);
        Check.due("used up", x.end(1), false);
    }

    private static void ask(AllSawIt x, int who, int... rows) {
        Check.rows(x, rows);
        Check.due("ask", x.ask(), who);
        Check.due("used up", x.end(1), false);
    }

    private static void ask() {
        Check.part("promise 31");
        AllSawIt x = houses(3);
        ask(x, 0);
        ask(x, 0, 0, 2, 1);
        ask(x, 2, 0, 1, 0);
        ask(x, -1, 0, 2, 3);
        ask(x, -1, 0, 2, 4);
        ask(x, 1, 0, 0, 0);
        ask(x, 0, 0, 1, 1, 2, 2, 1);
        ask(houses(5), 3, 0, 2, 1, 3, 4, 1);
        ask(houses(4), 3, 0, 2, 1);
        ask(new AllSawIt(), -1);
    }

    private static void book() {
        Check.part("promise 35");
        AllSawIt x = Check.street("house 1 sees 0 to 9 up 0 for 24;house 2 sees 3 to 9 up 0 for 24;deed 1 at 1;deed 4 at 1;"
                + "deed 20 at 1");
        Check.due("book", x.book(false), 0);
        Check.due("half", x.book(true), 0);
        x.done(1);
        Check.due("half by two", x.book(true), 2);
        x.done(0);
        x.done(2);
        Check.due("half by one", x.book(true), 3);
        x.say(0, 1);
        Check.due("not yet", x.book(false), 0);
        x.say(1, 1);
        Check.due("book", x.book(false), 2);
        Check.due("half", x.book(true), 1);
    }

    private static void trial() {
        Check.part("promise 36");
        AllSawIt x = Check.street(CHAIN + ";mists 8");
        for (int seed : new int[] {1, 99, -5}) {
            x.image();
            x.seed(seed);
            int[] words = new int[41];
            int[] books = new int[41];
            for (int n = 0; n <= 40; n++) {
                words[n] = x.trial(n, true);
                books[n] = x.trial(n, false);
            }
            Check.due("seed stays", x.seed(seed), seed);
            Check.due("day stays", x.count(4), 0);
            Check.due("fog stays", x.count(5), 0);
            Check.due("log stays", x.count(11), 0);
            Check.due("no act", x.count(12), 0);
            Check.due("no day, no word", words[0], 0);
            int said = 0;
            for (int n = 1; n <= 40; n++) {
                said += x.days(1);
                Check.due("words of " + n, words[n], said);
                Check.due("book of " + n, books[n], x.book(false));
            }
            Check.yes("something was said", said > 3);
            x.back();
        }
        for (int odd : ODD) {
            Check.refused("n", NO_NUMBER, () -> x.trial(odd, false));
            Check.refused("n", NO_NUMBER, () -> x.trial(odd, true));
        }
        x.done(0);
        x.say(0, 0);
        Check.due("words that were said by then do not count", x.trial(0, true), 0);
        Check.due("what is so stays so", x.trial(0, false), x.book(false));
    }

    private static void span() {
        Check.part("promise 37");
        AllSawIt x = Check.street(CHAIN + ";mists 8");
        x.seed(12);
        x.days(1);
        int seed = x.seed(3);
        boolean parted = false;
        for (int n = 0; n <= 40; n++) {
            int fewest = Integer.MAX_VALUE;
            int most = Integer.MIN_VALUE;
            for (int s = 1; s <= 6; s++) {
                x.seed(s);
                fewest = Math.min(fewest, x.trial(n, true));
                most = Math.max(most, x.trial(n, true));
            }
            x.seed(seed);
            Check.due("fewest of " + n, x.span(n, false), fewest);
            Check.due("most of " + n, x.span(n, true), most);
            parted |= fewest < most;
        }
        Check.yes("seeds matter", parted);
        // The second draws of the seeds 1 to 6, modulo 10: 8, 7, 7, 6, 7, 5.
        AllSawIt y = Check.street("house 1 sees 0 to 9 up 0 for 24 spite 8;deed 1 at 1");
        y.seed(99);
        Check.due("seed 1 alone lets it speak", y.span(1, true), 1);
        Check.due("the others do not", y.span(1, false), 0);
        y.spite(0, 6);
        Check.due("seed 6 alone does not", y.span(1, false), 0);
        Check.due("the others do", y.span(1, true), 1);
        y.spite(0, 5);
        Check.due("all do", y.span(1, false), 1);
        y.spite(0, 9);
        Check.due("none does", y.span(1, true), 0);
        Check.due("seed stays", x.seed(1), seed);
        for (int odd : ODD) {
            Check.refused("n", NO_NUMBER, () -> x.span(odd, false));
            Check.refused("n", NO_NUMBER, () -> x.span(odd, true));
        }
    }
}
