/** Promises 18 to 25 and 32 to 34: what is asked of windows and hours. */
public final class SightTest {
    private static final Class<IndexOutOfBoundsException> NO_SUCH = IndexOutOfBoundsException.class;
    private static final int[] ODD = {-1, 24, 1000, Integer.MIN_VALUE, Integer.MAX_VALUE};
    // 0 sees 0 to 5 from 6 to 17; 1 sees 3 to 9 from 8 to 17; 2 sees 2 to 12 from 20 to 9.
    private static final String THREE = "house 2 sees 0 to 5 up 6 for 12;house 4 sees 3 to 9 up 8 for 10;"
            + "house 10 sees 2 to 12 up 20 for 14";

    private SightTest() {
    }

    public static void main(String[] args) {
        witnesses();
        open();
        best();
        wake();
        mirrors();
        unseen();
        thief();
        clear();
        twins();
        eyes();
        alone();
        Check.end();
    }

    private static int places(int from, int to) {
        int bits = 0;
        for (int p = from; p <= to; p++) {
            bits |= 1 << p;
        }
        return bits;
    }

    private static void witnesses() {
        Check.part("promise 18");
        AllSawIt x = Check.street(THREE);
        Check.due("all", x.witnesses(4, 9), 7);
        Check.due("two", x.witnesses(4, 10), 3);
        Check.due("one", x.witnesses(0, 9), 1);
        Check.due("none", x.witnesses(20, 9), 0);
        Check.due("over midnight", x.witnesses(12, 0), 4);
        x.away(0, true);
        Check.due("one away", x.witnesses(4, 9), 6);
        for (int odd : ODD) {
            Check.refused("place", NO_SUCH, () -> x.witnesses(odd, 0));
            Check.refused("hour", NO_SUCH, () -> x.witnesses(0, odd));
        }
    }

    private static void open() {
        Check.part("promise 19");
        AllSawIt x = Check.street(THREE);
        Check.due("open", x.open(9, false), places(3, 5));
        Check.due("dark", x.open(9, true), places(13, 23));
        Check.due("open when nobody is up", x.open(18, false), 0);
        Check.due("dark when nobody is up", x.open(18, true), places(0, 23));
        Check.due("open as one sleeps", x.open(10, false), 0);
        Check.due("dark as one sleeps", x.open(10, true), places(10, 23));
        for (int odd : ODD) {
            Check.refused("hour", NO_SUCH, () -> x.open(odd, true));
            Check.refused("hour", NO_SUCH, () -> x.open(odd, false));
        }
        Check.due("all by the law", Check.street(THREE, "see").open(3, false), places(0, 23));
    }

    private static void best() {
        Check.part("promise 20");
        AllSawIt x = Check.street(THREE);
        Check.due("the least hour, then the least place", x.best(), 803);
        x.up(1, 9, 3);
        Check.due("an hour later", x.best(), 903);
        x.away(0, true);
        x.away(1, true);
        x.up(2, 23, 1);
        Check.due("the last hour", x.best(), 2302);
        x.away(2, true);
        Check.due("nobody sees a thing", x.best(), 0);
        Check.due("without houses", new AllSawIt().best(), -1);
        AllSawIt last = Check.street("house 23 sees 23 to 23 up 23 for 1");
        Check.due("the last of all", last.best(), 2323);
    }

    private static void wake() {
        Check.part("promise 21");
        AllSawIt x = Check.street(THREE);
        Check.due("asleep", x.wake(4, 10), 4);
        Check.due("all asleep", x.wake(4, 19), 7);
        Check.due("no window there", x.wake(20, 9), 0);
        Check.due("those who see need no waking", x.wake(4, 9), 0);
        x.away(0, true);
        x.up(1, 0, 0);
        Check.due("away, and never up", x.wake(4, 9), 3);
        Check.due("it stays as it is", x.witnesses(4, 9), 4);
        Check.due("away as it was", x.count(7), 1);
        x.mirror(0);
        Check.due("with its mirrors", x.wake(6, 9), 3);
        AllSawIt y = Check.street(THREE + ";away 0", "see if not up or away");
        Check.due("by a law that wants them asleep or away", y.wake(0, 9), 0);
        AllSawIt z = Check.street(THREE + ";away 0", "see if up and hour > 9;blind if away");
        Check.due("by the law", z.wake(0, 10), 5);
        Check.due("too early by the law", z.wake(0, 9), 0);
        for (int odd : ODD) {
            Check.refused("place", NO_SUCH, () -> x.wake(odd, 0));
            Check.refused("hour", NO_SUCH, () -> x.wake(0, odd));
        }
    }

    private static void mirrors() {
        Check.part("promise 22");
        AllSawIt x = Check.street(THREE);
        Check.due("none needed", x.mirrors(4, 9), 0);
        Check.due("one", x.mirrors(6, 9), 1);
        Check.due("one on another", x.mirrors(2, 9), 1);
        Check.due("on two houses", x.mirrors(1, 9), 3);
        Check.due("three", x.mirrors(8, 9), 3);
        Check.due("too far", x.mirrors(9, 9), -1);
        Check.due("asleep", x.mirrors(4, 10), -1);
        x.mirror(0);
        Check.due("one is there", x.mirrors(8, 9), 2);
        Check.due("3 at most in all", x.mirrors(9, 9), -1);
        Check.due("it stays as it is", x.count(8), 1);
        x.away(2, true);
        Check.due("one away never sees it", x.mirrors(4, 9), -1);
        x.away(2, false);
        Check.due("one back sees it", x.mirrors(4, 9), 0);
        AllSawIt y = Check.street(THREE, "see if not window");
        Check.due("by a law that wants none", y.mirrors(12, 9), -1);
        Check.due("by a law that wants none", y.mirrors(13, 9), 0);
        for (int odd : ODD) {
            Check.refused("place", NO_SUCH, () -> x.mirrors(odd, 0));
            Check.refused("hour", NO_SUCH, () -> x.mirrors(0, odd));
        }
    }

    private static void unseen() {
        Check.part("promise 23");
        AllSawIt x = Check.street(THREE);
        Check.due("never seen", x.unseen(20), 24);
        Check.due("18 and 19", x.unseen(4), 2);
        Check.due("over midnight", x.unseen(0), 12);
        Check.due("by day", x.unseen(12), 10);
        x.up(2, 0, 24);
        Check.due("always seen", x.unseen(4), 0);
        x.up(2, 1, 23);
        x.up(1, 0, 0);
        x.up(0, 0, 0);
        Check.due("one hour, the first", x.unseen(4), 1);
        x.up(2, 0, 1);
        Check.due("all but one", x.unseen(4), 23);
        for (int odd : ODD) {
            Check.refused("place", NO_SUCH, () -> x.unseen(odd));
        }
    }

    private static void thief() {
        Check.part("promise 24");
        AllSawIt x = Check.street(THREE);
        Check.due("all the way", x.thief(0, 23, 0), 11);
        Check.due("while all sleep", x.thief(0, 23, 18), 0);
        Check.due("there and back", x.thief(23, 0, 18), 0);
        Check.due("where one is", x.thief(4, 4, 9), 3);
        Check.due("where nobody looks", x.thief(13, 23, 9), 0);
        Check.due("waiting for the night", x.thief(13, 0, 9), 0);
        Check.due("waiting over midnight", x.thief(13, 0, 21), 0);
        AllSawIt y = Check.street("house 0 sees 0 to 5 up 0 for 23");
        Check.due("waits in the dark", y.thief(6, 0, 0), 0);
        Check.due("waits over midnight", y.thief(6, 0, 5), 0);
        Check.due("goes on at once", y.thief(0, 9, 0), 6);
        Check.due("waits for one hour", y.thief(0, 9, 22), 1);
        Check.due("the first place counts", y.thief(5, 6, 0), 1);
        Check.due("the last place counts", y.thief(6, 5, 0), 0);
        AllSawIt z = Check.street("house 9 sees 9 to 9 up 1 for 23;house 9 sees 9 to 9 up 5 for 23");
        Check.due("both are never asleep at once", z.thief(8, 10, 5), 1);
        Check.due("one sleeps now", z.thief(8, 10, 0), 1);
        AllSawIt zigzag = Check.street("house 4 sees 0 to 23 up 0 for 24",
                "see if hour < 1 and place > 4;see if hour > 0 and hour < 2 and place < 5;see if hour > 1 and place > 0");
        Check.due("one hour in the light", zigzag.thief(3, 8, 0), 1);
        AllSawIt aside = Check.street("house 4 sees 0 to 23 up 0 for 24",
                "see if hour < 1 and place > 3;see if hour > 0 and hour < 2 and place > 2");
        Check.due("one goes back a step, and waits there", aside.thief(3, 8, 0), 0);
        AllSawIt other = Check.street("house 4 sees 0 to 23 up 0 for 24",
                "see if hour < 1 and place < 20;see if hour > 0 and hour < 2 and place < 21");
        Check.due("the other way round", other.thief(20, 8, 0), 0);
        for (int odd : ODD) {
            Check.refused("from", NO_SUCH, () -> x.thief(odd, 0, 0));
            Check.refused("to", NO_SUCH, () -> x.thief(0, odd, 0));
            Check.refused("hour", NO_SUCH, () -> x.thief(0, 0, odd));
        }
    }

    private static void clear() {
        Check.part("promise 25");
        AllSawIt x = Check.street(THREE);
        Check.due("6 apart", x.clear(4, 9), 6);
        Check.due("7 apart", x.clear(3, 9), 5);
        Check.due("not by any", x.clear(20, 9), -1);
        Check.due("one asleep", x.clear(4, 10), -1);
        Check.due("without houses", new AllSawIt().clear(4, 9), -1);
        AllSawIt y = Check.street("house 4 sees 0 to 23 up 0 for 24");
        Check.due("9 at most", y.clear(4, 0), 9);
        Check.due("3 apart", y.clear(7, 0), 9);
        Check.due("4 apart", y.clear(8, 0), 8);
        Check.due("12 apart", y.clear(16, 0), 0);
        Check.due("13 apart", y.clear(17, 0), -1);
        x.mirror(0);
        Check.due("with its mirrors", x.clear(6, 9), 8);
        AllSawIt z = Check.street("house 4 sees 0 to 23 up 0 for 24;mists 9", "see if fog > 2 and fog < 5;see if fog < 1");
        z.seed(4);
        z.days(3);
        Check.due("the greatest, though others do not", z.clear(4, 0), 4);
        for (int odd : ODD) {
            Check.refused("place", NO_SUCH, () -> x.clear(odd, 0));
            Check.refused("hour", NO_SUCH, () -> x.clear(0, odd));
        }
    }

    private static void twins() {
        Check.part("promise 32");
        AllSawIt x = Check.street(THREE);
        Check.due("none", x.twins(), 0);
        x.lodger(1);
        Check.due("a lodger", x.twins(), 1);
        x.lodger(3);
        Check.due("three alike", x.twins(), 3);
        x.up(3, 8, 11);
        Check.due("one is up longer", x.twins(), 1);
        x.away(0, true);
        x.away(2, true);
        Check.due("two see nothing", x.twins(), 2);
        AllSawIt y = Check.street("house 1 sees 0 to 23 up 0 for 24;house 2 sees 0 to 14 up 0 for 24;"
                + "house 1 sees 0 to 13 up 5 for 24");
        Check.due("what is too far does not count", y.twins(), 1);
        y.up(2, 1, 23);
        Check.due("they part in the first hour", y.twins(), 0);
        y.up(2, 0, 23);
        Check.due("they part in the last hour", y.twins(), 0);
    }

    private static void eyes() {
        Check.part("promise 33");
        AllSawIt x = Check.street(THREE);
        Check.due("the first and the last", x.eyes(9), 5);
        Check.due("nobody sees a thing", x.eyes(19), 0);
        Check.due("one", x.eyes(0), 4);
        x.lodger(2);
        x.lodger(0);
        Check.due("of several the least", x.eyes(9), 5);
        x.away(0, true);
        Check.due("the lodger", x.eyes(9), 0b10100);
        AllSawIt y = Check.street("house 5 sees 0 to 4 up 0 for 24;house 5 sees 5 to 9 up 0 for 24;"
                + "house 5 sees 0 to 9 up 0 for 24;house 5 sees 0 to 9 up 0 for 24");
        Check.due("the fewest before the least", y.eyes(0), 4);
        for (int odd : ODD) {
            Check.refused("hour", NO_SUCH, () -> x.eyes(odd));
        }
    }

    private static void alone() {
        Check.part("promise 34");
        AllSawIt x = Check.street(THREE);
        Check.due("all", x.alone(9, -1), places(0, 1) | places(10, 12));
        Check.due("0", x.alone(9, 0), places(0, 1));
        Check.due("1", x.alone(9, 1), 0);
        Check.due("2", x.alone(9, 2), places(10, 12));
        Check.due("by night", x.alone(0, -1), places(2, 12));
        Check.due("by night, one asleep", x.alone(0, 0), 0);
        Check.due("two of three see it", x.alone(8, -1), places(0, 1) | places(10, 12));
        x.away(2, true);
        Check.due("without the last", x.alone(9, -1), places(0, 2) | places(6, 9));
        x.away(2, false);
        x.lodger(2);
        x.lodger(2);
        Check.due("three see it", x.alone(9, -1), places(0, 1));
        AllSawIt y = Check.street("house 4 sees 0 to 5 up 0 for 24;house 4 sees 3 to 9 up 0 for 24;"
                + "house 12 sees 12 to 14 up 0 for 24");
        Check.due("the first two see it", y.alone(0, -1), places(0, 2) | places(6, 9) | places(12, 14));
        for (int odd : ODD) {
            Check.refused("hour", NO_SUCH, () -> x.alone(odd, 0));
            Check.refused("hour, all", NO_SUCH, () -> x.alone(odd, -1));
        }
        for (int odd : new int[] {-2, 5, Integer.MIN_VALUE, Integer.MAX_VALUE}) {
            Check.refused("house", NO_SUCH, () -> x.alone(0, odd));
        }
    }
}
