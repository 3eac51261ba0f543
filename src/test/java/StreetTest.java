import java.util.NoSuchElementException;

/** Promises 7 to 17: houses, deeds, who sees, and the acts. */
public final class StreetTest {
    private static final Class<IndexOutOfBoundsException> NO_SUCH = IndexOutOfBoundsException.class;
    private static final Class<IllegalStateException> CANNOT = IllegalStateException.class;
    private static final Class<IllegalArgumentException> NO_NUMBER = IllegalArgumentException.class;
    private static final Class<NoSuchElementException> NO_WHAT = NoSuchElementException.class;
    private static final String TWO = "house 2 sees 1 to 5 up 22 for 4;house 20 sees 15 to 22 up 0 for 24 spite 4";
    private static final int[] ODD = {-1, 24, 1000, Integer.MIN_VALUE, Integer.MAX_VALUE};

    private StreetTest() {
    }

    public static void main(String[] args) {
        house();
        owesAndLacks();
        deed();
        sees();
        done();
        say();
        away();
        mirror();
        up();
        spite();
        lodger();
        days();
        daysDraw();
        Check.end();
    }

    private static void house() {
        Check.part("promise 7");
        AllSawIt x = Check.street(TWO);
        x.mirror(0);
        x.mirror(0);
        x.mirror(1);
        x.mirror(1);
        int[] first = {2, 0, 7, 22, 4, 0, 2, 0, 0, 0, 100 * 8 * 4 / 576};
        int[] second = {20, 13, 23, 0, 24, 4, 2, 0, 0, 0, 100 * 11 * 24 / 576};
        for (int what = 0; what <= 10; what++) {
            Check.due("house 0, " + what, x.house(0, what), first[what]);
            Check.due("house 1, " + what, x.house(1, what), second[what]);
        }
        x.away(1, true);
        Check.due("away", x.house(1, 7), 1);
        Check.due("share of one away", x.house(1, 10), 0);
        for (int what : new int[] {-1, 11, Integer.MIN_VALUE, Integer.MAX_VALUE}) {
            Check.refused("what " + what, NO_WHAT, () -> x.house(0, what));
            Check.refused("no house, what " + what, NO_SUCH, () -> x.house(2, what));
        }
        for (int odd : ODD) {
            Check.refused("house " + odd, NO_SUCH, () -> x.house(odd, 0));
        }
        Check.due("share of all", Check.street("house 2 sees 1 to 5 up 0 for 24", "see").house(0, 10), 100);
    }

    private static void owesAndLacks() {
        Check.part("promise 7, owes and lacks");
        AllSawIt x = Check.street("house 1 sees 0 to 9 up 0 for 24;house 2 sees 0 to 9 up 0 for 24;"
                + "deed 1 at 1;deed 2 at 1;deed 20 at 1");
        Check.due("lacks all", x.house(0, 9), 7);
        Check.due("owes none", x.house(0, 8), 0);
        x.done(0);
        x.done(1);
        x.done(2);
        Check.due("lacks", x.house(0, 9), 4);
        Check.due("owes", x.house(0, 8), 3);
        x.say(0, 1);
        Check.due("owes less", x.house(0, 8), 1);
        Check.due("lacks the same", x.house(0, 9), 4);
        x.say(0, 0);
        x.say(1, 0);
        Check.due("owes nothing", x.house(0, 8), 0);
        Check.due("the other owes", x.house(1, 8), 2);
        x.lodger(0);
        Check.due("what is so is not lacking", x.house(2, 9), 6);
    }

    private static void deed() {
        Check.part("promise 8");
        AllSawIt x = Check.street("house 1 sees 0 to 9 up 0 for 24 spite 3;house 2 sees 0 to 9 up 0 for 24 spite 5;"
                + "deed 3 at 7;deed 4 at 8 hangs 0;deed 5 at 9 hangs 1;deed 6 at 10 hangs 0;deed 7 at 11;deed 8 at 12 hangs 2");
        int[] hangs = {-1, 0, 1, 0, -1, 2};
        int[] below = {0b101110, 0b100100, 0b100000, 0, 0, 0};
        int[] chain = {0, 1, 2, 1, 0, 3};
        for (int d = 0; d < 6; d++) {
            Check.due("place", x.deed(d, 0), 3 + d);
            Check.due("hour", x.deed(d, 1), 7 + d);
            Check.due("hangs on", x.deed(d, 2), hangs[d]);
            Check.due("hangs", x.deed(d, 6), below[d]);
            Check.due("chain", x.deed(d, 7), chain[d]);
            Check.due("bribe", x.deed(d, 8), 8);
        }
        x.away(1, true);
        x.done(0);
        x.away(1, false);
        Check.due("saw", x.deed(0, 3), 1);
        x.done(0);
        Check.due("saw", x.deed(0, 3), 3);
        x.say(0, 0);
        Check.due("said", x.deed(0, 4), 1);
        Check.due("not so", x.deed(0, 5), 0);
        Check.due("bribe", x.deed(0, 8), 5);
        x.say(1, 0);
        Check.due("said", x.deed(0, 4), 3);
        Check.due("so", x.deed(0, 5), 1);
        Check.due("bribe", x.deed(0, 8), 0);
        Check.due("chain of all, so or not", x.deed(5, 7), 3);
        x.lodger(1);
        Check.due("a lodger has not said", x.deed(0, 8), 5);
        Check.due("it is so from then on", x.deed(0, 5), 1);
        for (int what : new int[] {-1, 9, Integer.MIN_VALUE, Integer.MAX_VALUE}) {
            Check.refused("what " + what, NO_WHAT, () -> x.deed(0, what));
            Check.refused("no deed, what " + what, NO_SUCH, () -> x.deed(6, what));
        }
        for (int odd : ODD) {
            Check.refused("deed " + odd, NO_SUCH, () -> x.deed(odd, 0));
        }
    }

    private static void sees() {
        Check.part("promise 9");
        AllSawIt x = Check.street(TWO);
        for (int p = 0; p < 24; p++) {
            for (int t = 0; t < 24; t++) {
                boolean first = p >= 1 && p <= 5 && (t >= 22 || t <= 1);
                Check.due("house 0 " + p + " " + t, x.sees(0, p, t), first);
                Check.due("house 1 " + p + " " + t, x.sees(1, p, t), p >= 15 && p <= 22);
            }
        }
        x.away(1, true);
        Check.due("away", x.sees(1, 20, 3), false);
        AllSawIt far = Check.street("house 0 sees 0 to 23 up 0 for 24;house 23 sees 0 to 23 up 0 for 0");
        Check.due("12 apart", far.sees(0, 12, 0), true);
        Check.due("13 apart", far.sees(0, 13, 0), false);
        Check.due("up for none", far.sees(1, 23, 0), false);
        for (int odd : ODD) {
            Check.refused("house", NO_SUCH, () -> x.sees(odd, 0, 0));
            Check.refused("place", NO_SUCH, () -> x.sees(0, odd, 0));
            Check.refused("hour", NO_SUCH, () -> x.sees(0, 0, odd));
        }
        Check.refused("house 2", NO_SUCH, () -> x.sees(2, 0, 0));
        fogs();
    }

    private static void fogs() {
        AllSawIt x = Check.street("house 0 sees 0 to 23 up 0 for 24;mists 9");
        x.seed(11);
        for (int i = 0; i < 20; i++) {
            x.days(1);
            int fog = x.count(5);
            Check.due("at the edge of fog " + fog, x.sees(0, 12 - fog, 0), true);
            Check.due("behind the edge of fog " + fog, x.sees(0, 13 - fog, 0), false);
        }
    }

    private static void done() {
        Check.part("promise 10");
        AllSawIt x = Check.street("house 1 sees 0 to 9 up 0 for 24;house 2 sees 0 to 9 up 0 for 12;deed 3 at 7;"
                + "deed 3 at 13 hangs 0;deed 20 at 7");
        Check.due("both see it", x.done(0), 3);
        Check.due("whatever it hangs on", x.done(1), 1);
        Check.due("nobody", x.done(2), 0);
        Check.due("an act each", x.count(12), 3);
        x.up(1, 0, 24);
        Check.due("again", x.done(1), 3);
        x.away(0, true);
        Check.due("who sees it now", x.done(1), 2);
        Check.due("who saw it stays so", x.deed(1, 3), 3);
        Check.due("nothing is said by it", x.deed(1, 4), 0);
        x.away(0, false);
        x.say(0, 0);
        x.say(1, 0);
        int acts = x.count(12);
        Check.refused("it is so", CANNOT, () -> x.done(0));
        Check.due("no act", x.count(12), acts);
        for (int odd : ODD) {
            Check.refused("deed", NO_SUCH, () -> x.done(odd));
        }
        Check.refused("deed 3", NO_SUCH, () -> x.done(3));
    }

    private static void say() {
        Check.part("promise 11");
        AllSawIt x = Check.street("house 1 sees 0 to 9 up 0 for 24;house 2 sees 0 to 9 up 0 for 24;deed 3 at 7;"
                + "deed 3 at 8 hangs 0;deed 3 at 9 hangs 1");
        Check.refused("did not see", CANNOT, () -> x.say(0, 0));
        x.done(0);
        x.done(1);
        x.done(2);
        x.away(0, true);
        Check.refused("away", CANNOT, () -> x.say(0, 0));
        x.away(0, false);
        Check.due("one says", x.say(0, 2), false);
        Check.refused("said already", CANNOT, () -> x.say(0, 2));
        Check.due("both say, but it hangs", x.say(1, 2), false);
        Check.due("both say, but it hangs", x.say(0, 1), false);
        Check.due("both say, but it hangs", x.say(1, 1), false);
        Check.due("one says", x.say(0, 0), false);
        Check.due("none so yet", x.book(false), 0);
        Check.due("so", x.say(1, 0), true);
        Check.due("all that hang on it", x.book(false), 7);
        Check.due("words", x.count(10), 6);
        for (int odd : ODD) {
            Check.refused("house", NO_SUCH, () -> x.say(odd, 0));
            Check.refused("deed", NO_SUCH, () -> x.say(0, odd));
        }
        Check.refused("house 2", NO_SUCH, () -> x.say(2, 0));
        Check.refused("deed 3", NO_SUCH, () -> x.say(0, 3));
        AllSawIt y = Check.street("house 1 sees 0 to 9 up 0 for 24;house 2 sees 0 to 9 up 0 for 24;deed 3 at 7");
        y.done(0);
        y.say(0, 0);
        y.lodger(0);
        Check.due("a lodger must say it, too", y.say(1, 0), false);
        y.done(0);
        Check.due("so by the lodger", y.say(2, 0), true);
    }

    private static void away() {
        Check.part("promise 12");
        AllSawIt x = Check.street(TWO);
        Check.due("goes", x.away(1, true), true);
        Check.due("is gone", x.away(1, true), false);
        Check.due("bits", x.count(7), 2);
        Check.due("comes back", x.away(1, false), true);
        Check.due("is back", x.away(1, false), false);
        Check.due("bits", x.count(7), 0);
        Check.due("what changes nothing is an act, too", x.count(12), 4);
        for (int odd : ODD) {
            Check.refused("house", NO_SUCH, () -> x.away(odd, true));
        }
        Check.refused("house 2", NO_SUCH, () -> x.away(2, false));
        Check.due("what throws is no act", x.count(12), 4);
    }

    private static void mirror() {
        Check.part("promise 13");
        AllSawIt x = Check.street(TWO);
        for (int n = 1; n <= 3; n++) {
            Check.due("mirror", x.mirror(0), n);
            Check.due("mirrors", x.house(0, 6), n);
            Check.due("left", x.house(0, 1), 0);
            Check.due("right", x.house(0, 2), 5 + n);
            Check.due("sees", x.sees(0, 5 + n, 22), true);
            Check.due("does not see", x.sees(0, 6 + n, 22), false);
        }
        Check.refused("a 4th", CANNOT, () -> x.mirror(0));
        Check.due("acts", x.count(12), 3);
        Check.due("all", x.count(8), 3);
        for (int odd : ODD) {
            Check.refused("house", NO_SUCH, () -> x.mirror(odd));
        }
    }

    private static void up() {
        Check.part("promise 14");
        AllSawIt x = Check.street(TWO);
        Check.due("up", x.up(0, 23, 2), 4);
        Check.due("from", x.house(0, 3), 23);
        Check.due("for", x.house(0, 4), 2);
        Check.due("23", x.sees(0, 2, 23), true);
        Check.due("0", x.sees(0, 2, 0), true);
        Check.due("1", x.sees(0, 2, 1), false);
        Check.due("22", x.sees(0, 2, 22), false);
        Check.due("up for all", x.up(0, 5, 24), 2);
        Check.due("4", x.sees(0, 2, 4), true);
        Check.due("up for none", x.up(0, 5, 0), 24);
        Check.due("5", x.sees(0, 2, 5), false);
        Check.due("the same again is an act", x.up(0, 5, 0), 0);
        Check.due("acts", x.count(12), 4);
        for (int odd : ODD) {
            Check.refused("house", NO_SUCH, () -> x.up(odd, 0, 99));
            Check.refused("hour", NO_SUCH, () -> x.up(0, odd, 99));
        }
        for (int n : new int[] {-1, 25, Integer.MIN_VALUE, Integer.MAX_VALUE}) {
            Check.refused("n", NO_NUMBER, () -> x.up(0, 3, n));
        }
        Check.due("nothing changed", x.house(0, 3), 5);
        Check.due("no act", x.count(12), 4);
    }

    private static void spite() {
        Check.part("promise 15");
        AllSawIt x = Check.street(TWO);
        Check.due("was", x.spite(1, 9), 4);
        Check.due("was", x.spite(1, 0), 9);
        Check.due("was", x.spite(0, 7), 0);
        Check.due("is", x.house(0, 5), 7);
        Check.due("all", x.count(9), 7);
        for (int n : new int[] {-1, 10, Integer.MIN_VALUE, Integer.MAX_VALUE}) {
            Check.refused("n", NO_NUMBER, () -> x.spite(0, n));
            Check.refused("house before n", NO_SUCH, () -> x.spite(2, n));
        }
        for (int odd : ODD) {
            Check.refused("house", NO_SUCH, () -> x.spite(odd, 0));
        }
        Check.due("acts", x.count(12), 3);
    }

    private static void lodger() {
        Check.part("promise 16");
        AllSawIt x = Check.street(TWO + ";deed 20 at 3");
        x.mirror(1);
        x.done(0);
        x.say(1, 0);
        x.away(1, true);
        Check.due("lodger", x.lodger(1), 2);
        for (int what = 0; what <= 7; what++) {
            Check.due("as its house, " + what, x.house(2, what), x.house(1, what));
        }
        Check.due("saw nothing", x.deed(0, 3), 2);
        Check.due("said nothing", x.deed(0, 4), 2);
        Check.due("away, too", x.count(7), 6);
        for (int n = 3; n < 8; n++) {
            Check.due("lodger", x.lodger(0), n);
        }
        Check.refused("a 9th", UnsupportedOperationException.class, () -> x.lodger(0));
        for (int odd : ODD) {
            Check.refused("house ahead of too many", NO_SUCH, () -> x.lodger(odd));
        }
        Check.due("acts", x.count(12), 10);
        Check.due("undone", x.undo(), true);
        Check.due("houses", x.count(0), 7);
    }

    private static void days() {
        Check.part("promise 17");
        AllSawIt x = Check.street("house 1 sees 0 to 9 up 0 for 24;house 2 sees 0 to 9 up 0 for 24;deed 3 at 7;"
                + "deed 3 at 8 hangs 0;deed 3 at 9 hangs 1;deed 20 at 9");
        Check.due("the first day", x.days(1), 2);
        Check.due("so", x.book(false), 1);
        Check.due("what hangs is not done yet", x.deed(1, 3), 0);
        Check.due("day", x.count(4), 1);
        Check.due("two more", x.days(2), 4);
        Check.due("so", x.book(false), 7);
        Check.due("day", x.count(4), 3);
        Check.due("days of one call are one act", x.count(12), 2);
        Check.due("60 days", x.days(60), 0);
        Check.due("day", x.count(4), 63);
        for (int n : new int[] {0, -1, 61, Integer.MIN_VALUE, Integer.MAX_VALUE}) {
            Check.refused("days", NO_NUMBER, () -> x.days(n));
        }
        Check.due("no act", x.count(12), 3);
        AllSawIt y = new AllSawIt();
        for (int i = 0; i < 167; i++) {
            y.days(60);
        }
        Check.due("9999 at most", y.count(4), 9999);
        AllSawIt empty = Check.street("deed 3 at 7;deed 3 at 8 hangs 0");
        Check.due("nobody says a word", empty.days(9), 0);
        Check.due("nothing is so without houses", empty.book(false), 0);
        Check.due("nor ahead", empty.ahead(9, 0), 0);
        AllSawIt z = Check.street("house 1 sees 0 to 9 up 0 for 24;house 2 sees 0 to 9 up 0 for 24;deed 3 at 7;away 1");
        Check.due("one away is silent", z.days(5), 1);
        Check.due("and it is not so", z.book(false), 0);
        z.away(1, false);
        Check.due("back again", z.days(1), 1);
        Check.due("so", z.book(false), 1);
    }

    /** The draws of a day: one for the fog, then one for each house that is not away. */
    private static void daysDraw() {
        Check.part("promise 17, draws");
        for (int seed : new int[] {1, 2, -7, 123456789, Integer.MIN_VALUE}) {
            AllSawIt x = Check.street("house 1 sees 0 to 9 up 0 for 24 spite 5;house 2 sees 0 to 9 up 0 for 24;"
                    + "house 3 sees 0 to 9 up 0 for 24 spite 9;deed 3 at 7;mists 6;away 1");
            x.seed(seed);
            int s = seed;
            int said = 0;
            for (int day = 0; day < 12; day++) {
                s = 1103515245 * s + 12345;
                int fog = Math.min((s >>> 16 & 32767) % 10, 6);
                s = 1103515245 * s + 12345;
                said |= (s >>> 16 & 32767) % 10 < 5 ? 0 : 1;
                s = 1103515245 * s + 12345;
                said |= (s >>> 16 & 32767) % 10 < 9 ? 0 : 4;
                x.days(1);
                Check.due("fog", x.count(5), fog);
                Check.due("said", x.deed(0, 4), said);
            }
            Check.due("seed", x.seed(0), s);
        }
    }
}
