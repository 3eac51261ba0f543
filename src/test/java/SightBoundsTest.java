/** The boundaries of what is asked of windows and hours, sentence by sentence. */
public final class SightBoundsTest {
    private static final int ALL = (1 << 24) - 1;

    private SightBoundsTest() {
    }

    public static void main(String[] args) {
        sees();
        witnesses();
        openAndDark();
        best();
        wake();
        mirrors();
        unseen();
        thiefWaits();
        thiefSights();
        clear();
        twins();
        eyes();
        share();
        alone();
        housesThatAreNot();
        placesAndHoursThatAreNot();
        Check.end();
    }

    /** So many houses that see by a law alone. */
    private static AllSawIt byLaw(int houses, String law) {
        AllSawIt x = Told.watched(houses, 0);
        Check.tell(x, law);
        x.law();
        return x;
    }

    private static void sees() {
        Check.promise(9, "SEES.");
        AllSawIt x = Told.watched(8, 0);
        for (int place : new int[] {0, 23}) {
            for (int hour : new int[] {0, 23}) {
                Check.due("the first HOUSE", x.sees(0, place, hour), true);
                Check.due("the last HOUSE", x.sees(7, place, hour), true);
            }
        }
        String was = Picture.all(x);
        x.sees(7, 23, 23);
        Check.same("looking changes nothing", Picture.all(x), was);
    }

    private static void witnesses() {
        Check.sentence("WITNESSES of a PLACE in an HOUR: HOUSES that SEE it (FOG as it is), as bits.");
        AllSawIt x = Check.street("house 0 sees 0 to 23 up 0 for 24;house 1 sees 0 to 23 up 0 for 24;"
                + "house 2 sees 0 to 23 up 0 for 24;mists 9");
        Check.due("in clear air", x.witnesses(12, 0), 7);
        Check.due("one farther", x.witnesses(13, 0), 6);
        Check.due("two farther", x.witnesses(14, 0), 4);
        Check.due("three farther", x.witnesses(15, 0), 0);
        Told.foggyDay(x, 9);
        Check.due("3 off by FOG 9", x.witnesses(3, 0), 7);
        Check.due("4 off by FOG 9", x.witnesses(4, 0), 6);
        Check.due("5 off by FOG 9", x.witnesses(5, 23), 4);
        Check.due("6 off by FOG 9", x.witnesses(6, 23), 0);
        Check.promise(18, "WITNESSES, as bits.");
        Check.due("without HOUSES", new AllSawIt().witnesses(0, 0), 0);
        Check.due("all 8", Told.watched(8, 0).witnesses(23, 23), 255);
        Check.due("the last alone", byLaw(8, "see if house > 6").witnesses(0, 23), 128);
    }

    private static void openAndDark() {
        Check.sentence("OPEN in an HOUR: PLACES that all HOUSES SEE, as bits (0 without HOUSES); DARK: PLACES that "
                + "none SEES, as bits.");
        Check.due("OPEN without HOUSES", new AllSawIt().open(0, false), 0);
        Check.due("DARK without HOUSES", new AllSawIt().open(0, true), ALL);
        Check.promise(19, "OPEN (dark false), or DARK, as bits.");
        AllSawIt x = byLaw(2, "see if place < 1;see if place > 22 and house > 0");
        Check.due("the first PLACE is OPEN", x.open(0, false), 1);
        Check.due("all but the first and the last are DARK", x.open(0, true), ALL - 1 - (1 << 23));
        AllSawIt y = byLaw(8, "see if place > 22;see if house > 0");
        Check.due("one that does not SEE is enough", y.open(23, false), 1 << 23);
        Check.due("one that SEES is enough", y.open(23, true), 0);
        Check.due("the first that SEES is enough", byLaw(8, "see if house < 1").open(23, true), 0);
        Check.due("the last that SEES is enough", byLaw(8, "see if house > 6").open(23, true), 0);
        Check.due("the first that does not SEE is enough", byLaw(8, "see if house > 0").open(23, false), 0);
        Check.due("the last that does not SEE is enough", byLaw(8, "see if house < 7").open(23, false), 0);
        Check.due("OPEN for all", Told.watched(8, 0).open(23, false), ALL);
        AllSawIt asleep = byLaw(3, "see if up");
        asleep.up(1, 1, 23);
        Check.due("in an HOUR in which one is not UP", asleep.open(0, false), 0);
        Check.due("in the next", asleep.open(1, false), ALL);
    }

    private static void best() {
        Check.sentence("BEST: the PLACE and HOUR that the most HOUSES SEE (of several the least HOUR, then the least "
                + "PLACE): 100 times the HOUR and the PLACE.");
        Check.due("nobody SEES a thing", byLaw(8, "").best(), 0);
        Check.due("all SEE all", Told.watched(8, 0).best(), 0);
        Check.due("the last PLACE in the last HOUR", byLaw(1, "see if place > 22 and hour > 22").best(), 2323);
        Check.due("the last PLACE", byLaw(1, "see if place > 22").best(), 23);
        Check.due("the last HOUR", byLaw(1, "see if hour > 22").best(), 2300);
        Check.due("the least HOUR, then the least PLACE",
                byLaw(1, "see if hour > 8 and place < 1;see if hour > 7 and place > 8").best(), 809);
        Check.due("two SEE more than one",
                byLaw(2, "see if house < 1 and hour < 1;see if hour > 3 and place > 20").best(), 421);
        Check.due("8 SEE more than 7", byLaw(8, "see if house < 7;see if hour > 22 and place > 3").best(), 2304);
        Check.promise(20, "BEST; NONE without HOUSES.");
        Check.due("without HOUSES", new AllSawIt().best(), -1);
        Check.due("with DEEDS, but without HOUSES", Told.watched(0, 1).best(), -1);
    }

    private static void wake() {
        Check.sentence("WAKE for a PLACE and an HOUR: HOUSES that do not SEE it, but would, if they were UP then and "
                + "not AWAY, as bits.");
        AllSawIt x = Check.street("house 12 sees 0 to 23 up 0 for 24;house 12 sees 0 to 23 up 1 for 23;"
                + "house 12 sees 0 to 23 up 0 for 24;house 12 sees 0 to 23 up 0 for 0;house 12 sees 1 to 23 up 0 for 0;"
                + "house 12 sees 0 to 22 up 0 for 0;away 2;away 3;mists 9");
        Check.due("asleep, AWAY, or both", x.wake(0, 0), 0b101110 & ~0b010000);
        Check.due("another window", x.wake(23, 0), 0b011110);
        Check.due("an HOUR later one is UP", x.wake(0, 1), 0b101100);
        Check.due("those who SEE it need no waking", x.witnesses(0, 1), 0b000011);
        Told.foggyDay(x, 1);
        Check.due("too far by this FOG", x.wake(0, 0), 0);
        Check.due("near enough by this FOG", x.wake(1, 0), 0b111110);
        Check.promise(21, "WAKE, as bits.");
        Check.due("without HOUSES", new AllSawIt().wake(0, 0), 0);
        AllSawIt all = Told.watched(8, 0);
        Check.due("all SEE it", all.wake(23, 23), 0);
        for (int h = 0; h < 8; h++) {
            all.away(h, true);
        }
        String was = Picture.all(all);
        Check.due("all are AWAY", all.wake(23, 23), 255);
        Check.same("nobody is woken by asking", Picture.all(all), was);
        for (int h = 0; h < 8; h++) {
            all.away(h, false);
            all.up(h, 0, 23);
        }
        Check.due("all are asleep", all.wake(23, 23), 255);
        Check.due("an HOUR ahead all are UP", all.wake(23, 22), 0);
        AllSawIt odd = byLaw(2, "see if not up;see if away");
        odd.away(0, true);
        Check.due("who SEES as it is AWAY, or sleeps, is not woken", odd.wake(0, 0), 0);
    }

    private static void mirrors() {
        Check.sentence("FEWEST MIRRORS for a PLACE and an HOUR: how many MIRRORS more in all (3 at most on each "
                + "HOUSE), so that all SEE it; none.");
        AllSawIt x = Check.street("house 12 sees 10 to 12 up 0 for 24;house 12 sees 9 to 11 up 0 for 24");
        int[] more = {-1, -1, -1, -1, -1, -1, -1, 5, 3, 1, 0, 0, 1, 3, 5, -1};
        for (int place = 0; place < more.length; place++) {
            Check.due("for " + place, x.mirrors(place, 0), more[place]);
        }
        x.mirror(0);
        Check.due("one is there", x.mirrors(14, 0), 4);
        Check.due("3 at most, those that are there, too", x.mirrors(15, 0), -1);
        x.mirror(0);
        x.mirror(0);
        Check.due("three are there", x.mirrors(14, 0), 3);
        x.mirror(1);
        x.mirror(1);
        x.mirror(1);
        Check.due("three on each", x.mirrors(14, 0), 0);
        Check.due("three on each are too few", x.mirrors(15, 0), -1);
        Check.promise(22, "FEWEST MIRRORS; NONE.");
        AllSawIt all = Check.street(Told.lines("house 12 sees 10 to 10 up 0 for 24", 8));
        String was = Picture.all(all);
        Check.due("3 on each of 8", all.mirrors(13, 0), 24);
        Check.due("to the left", all.mirrors(7, 0), 24);
        Check.due("4 are too many", all.mirrors(14, 0), -1);
        Check.same("asking puts no MIRROR", Picture.all(all), was);
        all.away(7, true);
        Check.due("one AWAY never SEES it", all.mirrors(10, 0), -1);
        AllSawIt asleep = Check.street("house 12 sees 10 to 10 up 1 for 23");
        Check.due("one asleep never SEES it", asleep.mirrors(10, 0), -1);
        Check.due("an HOUR later", asleep.mirrors(10, 1), 0);
        AllSawIt far = Check.street("house 0 sees 10 to 10 up 0 for 24");
        Check.due("12 off", far.mirrors(12, 0), 2);
        Check.due("13 off", far.mirrors(13, 0), -1);
        AllSawIt shy = Check.street("house 9 sees 9 to 9 up 0 for 24", "see if not window");
        Check.due("a WINDOW too wide", shy.mirrors(9, 0), -1);
        Check.due("a WINDOW narrow enough", shy.mirrors(10, 0), 0);
        Check.due("without HOUSES all SEE it", new AllSawIt().mirrors(0, 0), 0);
    }

    private static void unseen() {
        Check.sentence("UNSEEN: the longest row of HOURS (24, 0 go round; 24 at most) in which nobody SEES a PLACE.");
        Check.due("never seen", byLaw(8, "").unseen(0), 24);
        Check.due("always seen", byLaw(8, "see").unseen(23), 0);
        Check.due("seen in the first HOUR", byLaw(1, "see if hour < 1").unseen(0), 23);
        Check.due("seen in the last HOUR", byLaw(1, "see if hour > 22").unseen(0), 23);
        Check.due("seen in an HOUR between", byLaw(1, "see if hour > 11 and hour < 13").unseen(0), 23);
        Check.due("unseen in the first HOUR", byLaw(1, "see if hour > 0").unseen(0), 1);
        Check.due("unseen in the last HOUR", byLaw(1, "see if hour < 23").unseen(0), 1);
        Check.due("unseen in the last and the first HOUR", byLaw(1, "see if hour > 0 and hour < 23").unseen(0), 2);
        Check.due("the longer row, over midnight",
                byLaw(1, "see if hour > 4 and hour < 6;see if hour > 14 and hour < 16").unseen(0), 13);
        Check.due("the longer row, by day",
                byLaw(1, "see if hour > 4 and hour < 6;see if hour > 20 and hour < 22").unseen(0), 15);
        Check.due("nobody means nobody", byLaw(2, "see if house < 1 and hour < 12;see if house > 0 and hour > 9").unseen(0), 0);
        Check.promise(23, "UNSEEN.");
        Check.due("without HOUSES", new AllSawIt().unseen(23), 24);
        Check.due("of the PLACE alone", byLaw(1, "see if place < 23").unseen(23), 24);
        Check.due("of the PLACE beside", byLaw(1, "see if place < 23").unseen(22), 0);
    }

    private static void thiefWaits() {
        Check.sentence("THIEF: from a PLACE in an HOUR to another PLACE: step by step one goes on to a PLACE beside, "
                + "in the same HOUR, or stays as an HOUR goes by (23 times at most)");
        // Only in the HOUR 4 the way is dark; at 0 it always is.
        AllSawIt x = byLaw(1, "see if place > 0 and hour < 4;see if place > 0 and hour > 4");
        Check.due("at once", x.thief(0, 23, 4), 0);
        Check.due("23 HOURS later, behind 23 comes 0", x.thief(0, 23, 5), 0);
        Check.due("an HOUR later", x.thief(0, 23, 3), 0);
        Check.due("from the last HOUR", x.thief(0, 23, 23), 0);
        // 1 to 4 are dark in the HOUR 0 alone, 6 to 9 in the HOUR 1; 0, 5 and 10 always are.
        AllSawIt y = byLaw(1, "see if place > 0 and place < 5 and hour > 0;see if place > 5 and place < 10 and hour < 1;"
                + "see if place > 5 and place < 10 and hour > 1");
        Check.due("one HOUR is enough", y.thief(0, 10, 0), 0);
        Check.due("24 would be too many", y.thief(0, 10, 1), 4);
        Check.due("22 HOURS, and one more", y.thief(0, 10, 2), 0);
        Check.due("back again, 23 HOURS", y.thief(10, 0, 1), 0);
        Check.due("back again, 24 would be too many", y.thief(10, 0, 0), 4);
        // In the HOUR 0 one goes back two steps, and waits there.
        AllSawIt z = byLaw(1, "see if place > 2 and hour < 2 and hour > 0;see if place > 3 and hour < 1");
        Check.due("one goes back and waits", z.thief(3, 9, 0), 0);
    }

    private static void thiefSights() {
        Check.sentence("of all such ways the fewest sights: of each PLACE and HOUR in which one is (the first and "
                + "the last, too) how many HOUSES SEE it, together.");
        AllSawIt x = Told.watched(8, 0);
        Check.due("all the way, 8 SEE it all", x.thief(0, 23, 0), 192);
        Check.due("all the way back", x.thief(23, 0, 23), 192);
        Check.due("one step", x.thief(4, 5, 0), 16);
        Check.due("one step back", x.thief(5, 4, 0), 16);
        Check.due("no step", x.thief(5, 5, 0), 8);
        AllSawIt y = byLaw(3, "see if place < 1;see if place > 22");
        Check.due("the first and the last count", y.thief(0, 23, 0), 6);
        Check.due("the first counts", y.thief(0, 22, 0), 3);
        Check.due("the last counts", y.thief(22, 23, 0), 3);
        Check.due("neither counts", y.thief(1, 22, 0), 0);
        AllSawIt z = byLaw(2, "see if hour < 1;see if house < 1 and hour > 0");
        Check.due("to wait where two SEE costs 2, then one SEES", z.thief(0, 3, 0), 2 + 4);
        Check.due("not to wait is no more", z.thief(0, 0, 0), 2);
        AllSawIt fog = Check.street("house 0 sees 0 to 23 up 0 for 24;mists 9");
        Check.due("in clear air", fog.thief(0, 23, 0), 13);
        Told.foggyDay(fog, 9);
        Check.due("by FOG 9", fog.thief(0, 23, 0), 4);
        Check.promise(24, "THIEF.");
        Check.due("without HOUSES", new AllSawIt().thief(0, 23, 23), 0);
        String was = Picture.all(fog);
        fog.thief(0, 23, 0);
        Check.same("asking changes nothing", Picture.all(fog), was);
    }

    private static void clear() {
        Check.sentence("CLEAR: the greatest FOG (0 to 9) by which all SEE a PLACE in an HOUR; none.");
        AllSawIt x = Check.street("house 0 sees 0 to 23 up 0 for 24");
        for (int place = 0; place < 24; place++) {
            Check.due("for " + place, x.clear(place, 0), place > 12 ? -1 : Math.min(9, 12 - place));
        }
        AllSawIt y = Check.street("house 0 sees 0 to 23 up 0 for 24;house 2 sees 0 to 23 up 1 for 23;mists 9");
        Check.due("the farther one counts", y.clear(8, 1), 4);
        Check.due("one asleep", y.clear(8, 0), -1);
        Told.foggyDay(y, 9);
        Check.due("whatever the FOG is", y.clear(8, 1), 4);
        Check.due("the FOG stays", y.count(5), 9);
        Check.due("by FOG 9 alone", byLaw(1, "see if fog > 8").clear(0, 0), 9);
        Check.due("by FOG 0 alone", byLaw(1, "see if fog < 1").clear(0, 0), 0);
        Check.due("the greatest of several", byLaw(1, "see if fog < 3;see if fog > 5 and fog < 8").clear(0, 0), 7);
        Check.due("by none", byLaw(1, "see if fog > 9").clear(0, 0), -1);
        Check.promise(25, "CLEAR; NONE (also without HOUSES).");
        Check.due("without HOUSES", new AllSawIt().clear(0, 0), -1);
        Check.due("one of 8 is AWAY", withOneAway().clear(12, 0), -1);
        Check.due("all 8 are there", Told.watched(8, 0).clear(12, 0), 9);
    }

    private static AllSawIt withOneAway() {
        AllSawIt x = Told.watched(8, 0);
        x.away(7, true);
        return x;
    }

    private static void twins() {
        Check.sentence("TWINS: pairs of HOUSES that SEE just the same PLACES in each HOUR now: how many.");
        Check.due("one HOUSE", Told.watched(1, 0).twins(), 0);
        Check.due("two", Told.watched(2, 0).twins(), 1);
        Check.due("8 that SEE all", Told.watched(8, 0).twins(), 28);
        Check.due("8 that SEE nothing", byLaw(8, "").twins(), 28);
        Check.due("the first parts in the last PLACE and HOUR",
                byLaw(8, "see;blind if house < 1 and place > 22 and hour > 22").twins(), 21);
        Check.due("the last parts in the first PLACE and HOUR",
                byLaw(8, "see;blind if house > 6 and place < 1 and hour < 1").twins(), 21);
        Check.due("two halves", byLaw(8, "see if house < 4 and place < 1;see if house > 3 and place > 22").twins(), 12);
        Check.due("one SEES more", byLaw(2, "see if place < 9;see if house > 0 and place < 10").twins(), 0);
        Check.due("the same PLACES in other HOURS",
                byLaw(2, "see if house < 1 and hour < 1;see if house > 0 and hour > 22").twins(), 0);
        AllSawIt x = Check.street("house 12 sees 3 to 21 up 0 for 24;house 12 sees 2 to 22 up 0 for 24;mists 9");
        Told.foggyDay(x, 2);
        Check.due("now, by FOG 2", x.twins(), 0);
        Told.foggyDay(x, 3);
        Check.due("now, by FOG 3", x.twins(), 1);
        Check.promise(32, "TWINS.");
        Check.due("without HOUSES", new AllSawIt().twins(), 0);
    }

    private static void eyes() {
        Check.sentence("EYES in an HOUR: the fewest HOUSES that together SEE all that anybody SEES: of several the "
                + "least as bits.");
        Check.due("nobody SEES a thing", byLaw(8, "").eyes(0), 0);
        Check.due("all 8 SEE the same", byLaw(8, "see").eyes(23), 1);
        Check.due("the last alone SEES all", byLaw(8, "see if place < 23;see if house > 6").eyes(0), 128);
        Check.due("each SEES one PLACE",
                byLaw(8, "see if house < place + 1 and place < house + 1").eyes(0), 255);
        Check.due("the first PLACE and the last",
                byLaw(2, "see if house < 1 and place < 1;see if house > 0 and place > 22").eyes(0), 3);
        // 0 and 3 together SEE 0 to 3, and so do 1 and 2; no other two do.
        AllSawIt x = byLaw(4, "see if house < 1 and place < 2;see if house > 2 and place > 1 and place < 4;"
                + "see if house > 0 and house < 2 and (place < 1 or place > 1 and place < 3);"
                + "see if house > 1 and house < 3 and (place > 0 and place < 2 or place > 2 and place < 4)");
        Check.due("of several the least as bits", x.eyes(0), 6);
        AllSawIt wide = byLaw(3, "see if house < 1 and place < 5;see if house > 0 and house < 2 and place > 4;"
                + "see if house > 1");
        Check.due("the fewest ahead of the least", wide.eyes(0), 4);
        AllSawIt hours = byLaw(2, "see if house < 1 and hour < 1;see if house > 0 and hour > 22");
        Check.due("in the first HOUR", hours.eyes(0), 1);
        Check.due("in the last HOUR", hours.eyes(23), 2);
        Check.due("between", hours.eyes(11), 0);
        Check.promise(33, "EYES, as bits.");
        Check.due("without HOUSES", new AllSawIt().eyes(0), 0);
    }

    private static void share() {
        Check.sentence("SHARE of a HOUSE: how many of the 24 PLACES in the 24 HOURS it SEES, in hundredths of 576, "
                + "rounded down.");
        Check.due("0 of 576", byLaw(1, "").house(0, 10), 0);
        Check.due("1 of 576", byLaw(1, "see if place < 1 and hour < 1").house(0, 10), 0);
        Check.due("5 of 576", byLaw(1, "see if place < 5 and hour < 1").house(0, 10), 0);
        Check.due("6 of 576", byLaw(1, "see if place < 6 and hour < 1").house(0, 10), 1);
        Check.due("11 of 576", byLaw(1, "see if place < 11 and hour > 22").house(0, 10), 1);
        Check.due("12 of 576", byLaw(1, "see if place < 12 and hour > 22").house(0, 10), 2);
        Check.due("287 of 576", byLaw(1, "see if hour < 12;blind if place < 1 and hour < 1").house(0, 10), 49);
        Check.due("288 of 576", byLaw(1, "see if hour < 12").house(0, 10), 50);
        Check.due("575 of 576", byLaw(1, "see;blind if place > 22 and hour > 22").house(0, 10), 99);
        Check.due("576 of 576", byLaw(1, "see").house(0, 10), 100);
        AllSawIt x = byLaw(8, "see if house > 6");
        Check.due("the last of 8", x.house(7, 10), 100);
        Check.due("the others", x.house(0, 10) + x.house(6, 10), 0);
    }

    private static void alone() {
        Check.sentence("ALONE in an HOUR: PLACES that just one HOUSE SEES, as bits; those of these that a told HOUSE "
                + "SEES.");
        AllSawIt one = byLaw(1, "see");
        Check.due("one HOUSE", one.alone(0, -1), ALL);
        Check.due("told", one.alone(0, 0), ALL);
        Check.due("two SEE all", byLaw(2, "see").alone(0, -1), 0);
        Check.due("8 SEE all", byLaw(8, "see").alone(0, -1), 0);
        Check.due("none SEES a thing", byLaw(8, "").alone(0, -1), 0);
        AllSawIt x = byLaw(3, "see if house < 1 and place < 3;see if house > 0 and house < 2 and place > 1 and place < 6;"
                + "see if house > 1 and (place > 1 and place < 4 or place > 22)");
        Check.due("just one", x.alone(0, -1), 0b11 | 0b110000 | 1 << 23);
        Check.due("by the first", x.alone(0, 0), 0b11);
        Check.due("by the second", x.alone(0, 1), 0b110000);
        Check.due("by the last", x.alone(0, 2), 1 << 23);
        Check.promise(34, "ALONE, as bits (house NONE: all; else those that this HOUSE SEES).");
        Check.due("without HOUSES", new AllSawIt().alone(0, -1), 0);
        Check.refused("a HOUSE without HOUSES", IndexOutOfBoundsException.class, () -> new AllSawIt().alone(0, 0));
        Check.due("a HOUSE that SEES nothing", byLaw(2, "see if house < 1").alone(23, 1), 0);
        Check.due("a HOUSE that SEES it alone", byLaw(2, "see if house < 1").alone(23, 0), ALL);
        Refusal.answered("NONE", a -> a.alone(0, -1));
        Refusal.noSuch("below NONE", a -> a.alone(0, -2));
        Refusal.noSuch("no such HOUR, NONE", a -> a.alone(24, -1));
    }

    /** By these laws one would SEE a PLACE or an HOUR behind the last alone. */
    private static void placesAndHoursThatAreNot() {
        Check.sentence("PLACES 0 to 23 along the street, HOURS 0 to 23.");
        for (String behind : new String[] {"place > 23", "hour > 23"}) {
            AllSawIt x = byLaw(2, "see if house < 1 and " + behind);
            Check.due("BEST by " + behind, x.best(), 0);
            Check.due("TWINS by " + behind, x.twins(), 1);
            Check.due("SHARE by " + behind, x.house(0, 10), 0);
            Check.due("DARK by " + behind, x.open(23, true), ALL);
            Check.due("EYES by " + behind, x.eyes(23), 0);
            Check.due("ALONE by " + behind, x.alone(23, -1), 0);
            Check.due("UNSEEN by " + behind, x.unseen(23), 24);
            Check.due("THIEF by " + behind, x.thief(0, 23, 23), 0);
            AllSawIt y = byLaw(2, "see;blind if " + behind);
            Check.due("OPEN by all but " + behind, y.open(23, false), ALL);
            Check.due("SHARE by all but " + behind, y.house(1, 10), 100);
            Check.due("THIEF by all but " + behind, y.thief(0, 23, 23), 48);
            Check.due("UNSEEN by all but " + behind, y.unseen(23), 0);
        }
    }

    /** By this law all HOUSES would SEE all, but for those that are there. */
    private static void housesThatAreNot() {
        Check.sentence("as each HOUSE that there is (one at least)");
        for (int houses = 0; houses <= 7; houses++) {
            AllSawIt x = byLaw(houses, houses == 0 ? "see" : "see if house > " + (houses - 1));
            Check.tell(x, "deed 0 at 0");
            x.street();
            Check.due("WITNESSES", x.witnesses(0, 0), 0);
            Check.due("OPEN", x.open(0, false), 0);
            Check.due("DARK", x.open(0, true), ALL);
            Check.due("BEST", x.best(), houses == 0 ? -1 : 0);
            Check.due("WAKE", x.wake(0, 0), 0);
            Check.due("FEWEST MIRRORS", x.mirrors(0, 0), houses == 0 ? 0 : -1);
            Check.due("UNSEEN", x.unseen(0), 24);
            Check.due("THIEF", x.thief(0, 23, 0), 0);
            Check.due("CLEAR", x.clear(0, 0), -1);
            Check.due("TWINS", x.twins(), houses * (houses - 1) / 2);
            Check.due("EYES", x.eyes(0), 0);
            Check.due("ALONE", x.alone(0, -1), 0);
            Check.due("DONE", x.done(0), 0);
            Check.due("words", x.days(3), 0);
            Check.due("SAW", x.deed(0, 3), 0);
            Check.due("HALF", x.book(true), 0);
            Check.due("AHEAD", x.ahead(3, 0), 0);
        }
        AllSawIt y = byLaw(3, "see");
        Check.tell(y, "deed 0 at 0");
        y.street();
        Check.due("WITNESSES that are", y.witnesses(0, 0), 7);
        y.days(1);
        Check.due("SAW by those that are", y.deed(0, 3), 7);
        Check.due("SAID by those that are", y.deed(0, 4), 7);
        Check.due("SO", y.book(false), 1);
    }
}
