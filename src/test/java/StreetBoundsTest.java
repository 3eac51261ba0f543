/** The boundaries of HOUSES and DEEDS and of the texts of THE STREET, sentence by sentence. */
public final class StreetBoundsTest {
    private static final Class<IndexOutOfBoundsException> NO_SUCH = IndexOutOfBoundsException.class;
    private static final String HOUSE = "house 1 sees 1 to 1 up 1 for 1";
    private static final String DEED = "deed 1 at 1";
    // By this law only the window counts.
    private static final String BY_WINDOW = "see if window";

    private StreetBoundsTest() {
    }

    public static void main(String[] args) {
        placesAndHours();
        houses();
        window();
        up();
        spite();
        mirrors();
        away();
        deeds();
        hangs();
        atFirst();
        texts();
        lines();
        houseLine();
        deedLine();
        mistsAndAway();
        boundsOfNumbers();
        toldByThen();
        digits();
        words();
        blanks();
        firstWrongByte();
        nothingStays();
        streetCall();
        Check.end();
    }

    private static void placesAndHours() {
        Check.sentence("PLACES 0 to 23 along the street");
        Check.due("the first PLACE", Told.rightStreet("house 0 sees 0 to 0 up 1 for 1").house(0, 0), 0);
        Check.due("the last PLACE", Told.rightStreet("house 23 sees 23 to 23 up 1 for 1").house(0, 0), 23);
        Told.wrongStreet("house ^24 sees 1 to 1 up 1 for 1");
        Told.wrongStreet("house 1 sees ^24 to 24 up 1 for 1");
        Told.wrongStreet("house 1 sees 1 to ^24 up 1 for 1");
        Check.due("the first PLACE of a DEED", Told.rightStreet("deed 0 at 1").deed(0, 0), 0);
        Check.due("the last PLACE of a DEED", Told.rightStreet("deed 23 at 1").deed(0, 0), 23);
        Told.wrongStreet("deed ^24 at 1");
        Check.sentence("HOURS 0 to 23.");
        Check.due("the first HOUR", Told.rightStreet("house 1 sees 1 to 1 up 0 for 1").house(0, 3), 0);
        Check.due("the last HOUR", Told.rightStreet("house 1 sees 1 to 1 up 23 for 1").house(0, 3), 23);
        Told.wrongStreet("house 1 sees 1 to 1 up ^24 for 1");
        Check.due("the first HOUR of a DEED", Told.rightStreet("deed 1 at 0").deed(0, 1), 0);
        Check.due("the last HOUR of a DEED", Told.rightStreet("deed 1 at 23").deed(0, 1), 23);
        Told.wrongStreet("deed 1 at ^24");
    }

    private static void houses() {
        Check.sentence("HOUSES (at most 8, numbered from 0 on): a PLACE;");
        AllSawIt x = Told.rightStreet("house 10 sees 1 to 1 up 1 for 1;house 11 sees 1 to 1 up 1 for 1;" + Told.lines(HOUSE, 5)
                + ";house 17 sees 1 to 1 up 1 for 1");
        Check.due("8 HOUSES", x.count(0), 8);
        Check.due("the first", x.house(0, 0), 10);
        Check.due("the second", x.house(1, 0), 11);
        Check.due("the last", x.house(7, 0), 17);
        Check.refused("a HOUSE behind the last", NO_SUCH, () -> x.house(8, 0));
        Check.refused("a HOUSE ahead of the first", NO_SUCH, () -> x.house(-1, 0));
        Told.wrongStreet(Told.lines(HOUSE, 8) + "; ^" + HOUSE);
        Told.wrongStreet("mists 1;^" + HOUSE, Told.lines(HOUSE, 8));
        Told.rightStreet(HOUSE, Told.lines(HOUSE, 7));
        Told.wrongStreet(HOUSE + ";^" + HOUSE, Told.lines(HOUSE, 7));
    }

    /** The PLACES that HOUSE 0 sees at an HOUR, as bits. */
    private static int seen(AllSawIt x, int hour) {
        int bits = 0;
        for (int place = 0; place < 24; place++) {
            bits |= x.sees(0, place, hour) ? 1 << place : 0;
        }
        return bits;
    }

    private static int row(int from, int to) {
        return (1 << to + 1) - (1 << from);
    }

    private static void window() {
        Check.sentence("a WINDOW from a PLACE to another one (both too; the second not below the first)");
        Check.due("both ends too", seen(Told.rightStreet("house 9 sees 5 to 8 up 0 for 24"), 0), row(5, 8));
        Check.due("one PLACE alone", seen(Told.rightStreet("house 9 sees 8 to 8 up 0 for 24"), 0), row(8, 8));
        Check.due("the first PLACE alone", seen(Told.rightStreet("house 9 sees 0 to 0 up 0 for 24"), 0), row(0, 0));
        Check.due("the last PLACE alone", seen(Told.rightStreet("house 19 sees 23 to 23 up 0 for 24"), 0), row(23, 23));
        Told.wrongStreet("house 9 sees 8 to ^7 up 0 for 24");
        Told.wrongStreet("house 9 sees 1 to ^0 up 0 for 24");
        Told.wrongStreet("house 9 sees 23 to ^22 up 0 for 24");
    }

    /** The HOURS in which HOUSE 0 is up, as bits. */
    private static int hoursUp(String from, String hours) {
        AllSawIt x = Told.rightStreet("house 9 sees 9 to 9 up " + from + " for " + hours);
        int bits = 0;
        for (int hour = 0; hour < 24; hour++) {
            bits |= x.sees(0, 9, hour) ? 1 << hour : 0;
        }
        return bits;
    }

    private static void up() {
        Check.sentence("UP from an HOUR on, so many HOURS (0 to 24; behind 23 comes 0)");
        Check.due("for none", hoursUp("7", "0"), 0);
        Check.due("for one", hoursUp("7", "1"), row(7, 7));
        Check.due("for all", hoursUp("7", "24"), row(0, 23));
        Check.due("for all but one", hoursUp("7", "23"), row(0, 23) - row(6, 6));
        Check.due("up to the last HOUR", hoursUp("22", "2"), row(22, 23));
        Check.due("behind 23 comes 0", hoursUp("23", "2"), row(23, 23) + row(0, 0));
        Check.due("the last HOUR alone", hoursUp("23", "1"), row(23, 23));
        Check.due("all but the last", hoursUp("0", "23"), row(0, 22));
        Check.due("all but the first", hoursUp("1", "23"), row(1, 23));
        Told.wrongStreet("house 9 sees 9 to 9 up 7 for ^25");
    }

    private static void spite() {
        Check.sentence("SPITE 0 to 9 (0 at first)");
        Check.due("at first", Told.rightStreet(HOUSE).house(0, 5), 0);
        Check.due("the least", Told.rightStreet(HOUSE + " spite 0").house(0, 5), 0);
        Check.due("the most", Told.rightStreet(HOUSE + " spite 9").house(0, 5), 9);
        Told.wrongStreet(HOUSE + " spite ^10");
        // A house told behind one with SPITE has none at first, either.
        Check.due("the next at first", Told.rightStreet(HOUSE + " spite 9;" + HOUSE).house(1, 5), 0);
    }

    private static void mirrors() {
        Check.sentence("MIRRORS 0 to 3 (0 at first): each makes the WINDOW one PLACE wider to both sides (0 and 23 "
                + "at most)");
        AllSawIt x = Check.street("house 9 sees 2 to 21 up 0 for 24;house 9 sees 10 to 10 up 0 for 24;"
                + "house 9 sees 0 to 23 up 0 for 24", BY_WINDOW);
        for (int n = 0; n <= 3; n++) {
            Check.due("MIRRORS", x.house(0, 6), n);
            Check.due("from, 0 at most", x.house(0, 1), Math.max(0, 2 - n));
            Check.due("to, 23 at most", x.house(0, 2), Math.min(23, 21 + n));
            Check.due("seen", seen(x, 0), row(Math.max(0, 2 - n), Math.min(23, 21 + n)));
            Check.due("from", x.house(1, 1), 10 - n);
            Check.due("to", x.house(1, 2), 10 + n);
            Check.due("the end to the left is seen", x.sees(1, 10 - n, 0), true);
            Check.due("the end to the right is seen", x.sees(1, 10 + n, 0), true);
            Check.due("the PLACE left of it is not", x.sees(1, 9 - n, 0), false);
            Check.due("the PLACE right of it is not", x.sees(1, 11 + n, 0), false);
            Check.due("from the first", x.house(2, 1), 0);
            Check.due("to the last", x.house(2, 2), 23);
            for (int h = 0; h < 3 && n < 3; h++) {
                Check.due("one more", x.mirror(h), n + 1);
            }
        }
        Check.refused("a 4th", IllegalStateException.class, () -> x.mirror(0));
    }

    private static void away() {
        Check.sentence("AWAY or not (not at first).");
        AllSawIt x = Told.rightStreet(HOUSE + ";" + HOUSE);
        Check.due("not at first", x.house(0, 7), 0);
        Check.due("none is", x.count(7), 0);
        Check.tell(x, "away 1");
        x.street();
        Check.due("told away", x.house(1, 7), 1);
        Check.due("the other is not", x.house(0, 7), 0);
        Check.tell(x, "away 1");
        x.street();
        Check.due("told once more", x.count(7), 2);
    }

    private static void deeds() {
        Check.sentence("DEEDS (at most 10, numbered from 0 on)");
        AllSawIt x = Told.rightStreet("deed 10 at 1;deed 11 at 1;" + Told.lines(DEED, 7) + ";deed 19 at 1");
        Check.due("10 DEEDS", x.count(1), 10);
        Check.due("the first", x.deed(0, 0), 10);
        Check.due("the second", x.deed(1, 0), 11);
        Check.due("the last", x.deed(9, 0), 19);
        Check.refused("a DEED behind the last", NO_SUCH, () -> x.deed(10, 0));
        Check.refused("a DEED ahead of the first", NO_SUCH, () -> x.deed(-1, 0));
        Told.wrongStreet(Told.lines(DEED, 10) + "; ^" + DEED);
        Told.wrongStreet("mists 1;^" + DEED, Told.lines(DEED, 10));
        Told.rightStreet(DEED, Told.lines(DEED, 9));
        Told.wrongStreet(DEED + ";^" + DEED, Told.lines(DEED, 9));
    }

    private static void hangs() {
        Check.sentence("a PLACE, an HOUR, a DEED on which it hangs (told ahead of it), or none");
        AllSawIt x = Told.rightStreet(Told.lines(DEED, 8) + ";deed 1 at 1 hangs 7;deed 1 at 1 hangs 0");
        Check.due("on none", x.deed(7, 2), -1);
        Check.due("on the one ahead", x.deed(8, 2), 7);
        Check.due("on the first", x.deed(9, 2), 0);
        Told.wrongStreet(DEED + " hangs ^0");
        Told.wrongStreet(DEED + ";" + DEED + " hangs ^1");
        Told.wrongStreet(DEED + " hangs ^1;" + DEED);
    }

    private static void atFirst() {
        AllSawIt x = Told.rightStreet(HOUSE + ";" + DEED);
        Check.sentence("SAW, SAID: HOUSES, as bits (none at first)");
        Check.due("SAW", x.deed(0, 3), 0);
        Check.due("SAID", x.deed(0, 4), 0);
        AllSawIt full = Told.watched(8, 2);
        full.done(0);
        Check.due("SAW by 8 HOUSES", full.deed(0, 3), 255);
        full.say(7, 0);
        Check.due("SAID by the last", full.deed(0, 4), 128);
        full.say(0, 0);
        Check.due("SAID by the first, too", full.deed(0, 4), 129);
        Check.due("nothing of the other", full.deed(1, 3) + full.deed(1, 4), 0);
        Check.sentence("SO or not (not at first)");
        Check.due("SO", x.deed(0, 5), 0);
        Check.due("none is", x.book(false), 0);
        Check.sentence("FOG 0 to 9: the latest (0 at first).");
        AllSawIt misty = Told.rightStreet("mists 9");
        Check.due("FOG at first", misty.count(5), 0);
        for (int fog = 9; fog >= 0; fog--) {
            Told.foggyDay(misty, fog);
        }
        Check.sentence("MISTS 0 to 9 (0 at first).");
        Check.due("MISTS at first", x.count(6), 0);
        Check.due("the most", Told.rightStreet("mists 9").count(6), 9);
        Check.due("none again", Told.rightStreet("mists 0", "mists 9").count(6), 0);
        Told.wrongStreet("mists ^10");
        Check.sentence("DAY: 0 at first.");
        Check.due("DAY at first", x.count(4), 0);
        Check.due("DAY at first, without HOUSES", new AllSawIt().count(4), 0);
    }

    private static AllSawIt twelveTexts() {
        AllSawIt x = Told.rightStreet("house 4 sees 3 to 9 up 8 for 10");
        for (int n = 2; n <= 12; n++) {
            Check.tell(x, n == 5 ? "" : "mists 3");
            Check.due("text " + n, x.street(), n);
        }
        x.mirror(0);
        x.image();
        return x;
    }

    private static AllSawIt twelveAndA(String text) {
        AllSawIt x = twelveTexts();
        Check.tell(x, text);
        return x;
    }

    private static void texts() {
        Check.sentence("THE STREET is told in texts (at most 12, one behind another)");
        Check.due("12 texts", twelveTexts().count(2), 12);
        Class<UnsupportedOperationException> tooMany = UnsupportedOperationException.class;
        Refusal.usingUp("a 13th text", tooMany, () -> twelveAndA("mists 4"), AllSawIt::street, -1);
        Refusal.usingUp("an empty 13th text", tooMany, () -> twelveAndA(""), AllSawIt::street, -1);
        AllSawIt x = Told.rightStreet("away 0;deed 2 at 2 hangs 0;" + HOUSE, "house 5 sees 1 to 1 up 1 for 1", "deed 7 at 7");
        Check.due("the HOUSE of the text ahead is AWAY", x.count(7), 1);
        Check.due("it stays the first", x.house(0, 0), 5);
        Check.due("HOUSES of all texts", x.count(0), 2);
        Check.due("the DEED of the text ahead stays the first", x.deed(0, 0), 7);
        Check.due("the next hangs on it", x.deed(1, 2), 0);
    }

    private static void lines() {
        Check.sentence("LINE { ; LINE }, at most 14");
        Told.rightStreet("mists 1");
        Check.due("14 LINES, the last of which counts", Told.rightStreet(Told.lines("mists 1", 13) + ";mists 2").count(6), 2);
        Told.wrongStreet(Told.lines("mists 1", 14) + ";  ^mists 1");
        Told.wrongStreet(Told.lines("mists 1", 14) + ";^");
        Told.wrongStreet(Told.lines("mists 1", 14) + " ; ^");
        Told.wrongStreet("^;mists 1");
        Told.wrongStreet("mists 1;^");
        Told.wrongStreet("mists 1;^;mists 1");
        Told.wrongStreet("mists 1 ^mists 1");
        Told.wrongStreet("mists 1^,mists 1");
        Told.rightStreet("mists 1", Told.lines("mists 1", 14));
    }

    /** Each thing of a LINE: if the text ends ahead of it, or another thing stands there. Behind so many it may end. */
    private static void eachThing(String line, int mayEnd, String... ahead) {
        String[] things = line.split(" ");
        StringBuilder told = new StringBuilder();
        for (int n = 0; n < things.length; n++) {
            if (n > 0 && n != mayEnd) {
                Told.wrongStreet(told + "^", ahead);
                Told.wrongStreet(told + "  ^", ahead);
                Told.wrongStreet(told + " ^;mists 1", ahead);
            }
            boolean number = Character.isDigit(things[n].charAt(0));
            Told.wrongStreet(told + " ^" + (number ? "mists" : "5"), ahead);
            Told.wrongStreet(told + " ^" + (number ? "-" + things[n] : things[n] + "x"), ahead);
            Told.wrongStreet(told + " ^" + (number ? "1000" : things[n].substring(1)), ahead);
            Told.wrongStreet(told + " ^?", ahead);
            for (int i = 0; i < things[n].length() && !number; i++) {
                Told.wrongStreet(told + " ^" + things[n].substring(0, i) + "q" + things[n].substring(i + 1) + " 1", ahead);
            }
            told.append(n > 0 ? " " : "").append(things[n]);
            if (n + 1 == mayEnd) {
                Told.rightStreet(told.toString(), ahead);
            }
        }
        Told.rightStreet(line, ahead);
        Told.wrongStreet(line + " ^1", ahead);
        Told.wrongStreet(line + " ^and", ahead);
        Told.wrongStreet(line + " ^" + things[0], ahead);
        Told.wrongStreet(line + ";^", ahead);
    }

    private static void houseLine() {
        Check.sentence("house N sees N to N up N for N [ spite N ]");
        eachThing("house 1 sees 2 to 3 up 4 for 5 spite 6", 10);
        AllSawIt x = Told.rightStreet("house 1 sees 2 to 3 up 4 for 5 spite 6;house 11 sees 12 to 13 up 14 for 15");
        int[] first = {1, 2, 3, 4, 5, 6};
        int[] second = {11, 12, 13, 14, 15, 0};
        for (int what = 0; what < 6; what++) {
            Check.due("the first, " + what, x.house(0, what), first[what]);
            Check.due("the second, " + what, x.house(1, what), second[what]);
        }
        Told.wrongStreet("house 1 sees 2 to 3 up 4 for 5 spite 6 ^spite 6");
    }

    private static void deedLine() {
        Check.sentence("deed N at N [ hangs D ]");
        eachThing("deed 1 at 2 hangs 0", 4, DEED);
        AllSawIt x = Told.rightStreet("deed 1 at 2 hangs 0;deed 3 at 4", DEED);
        Check.due("PLACE", x.deed(1, 0), 1);
        Check.due("HOUR", x.deed(1, 1), 2);
        Check.due("hangs", x.deed(1, 2), 0);
        Check.due("hangs on none", x.deed(2, 2), -1);
        Told.wrongStreet("deed 1 at 2 hangs 0 ^hangs 0", DEED);
    }

    private static void mistsAndAway() {
        Check.sentence("| mists N | away H.");
        eachThing("mists 3", 2);
        eachThing("away 0", 2, HOUSE);
        Told.wrongStreet("^back 0", HOUSE);
        Told.wrongStreet("^see");
        Check.due("the last of two counts", Told.rightStreet("mists 3;mists 2").count(6), 2);
    }

    private static void boundsOfNumbers() {
        Check.sentence("(N of house: its PLACE; up: an HOUR; N of deed: its PLACE, at: its HOUR;");
        AllSawIt least = Told.rightStreet("house 0 sees 0 to 0 up 0 for 0 spite 0;deed 0 at 0;mists 0;away 0");
        AllSawIt most = Told.rightStreet("house 23 sees 23 to 23 up 23 for 24 spite 9;deed 23 at 23;mists 9;away 0");
        int[] bounds = {23, 23, 23, 23, 24, 9};
        for (int what = 0; what < 6; what++) {
            Check.due("the least, " + what, least.house(0, what), 0);
            Check.due("the most, " + what, most.house(0, what), bounds[what]);
        }
        Check.due("the least PLACE", least.deed(0, 0), 0);
        Check.due("the last HOUR", most.deed(0, 1), 23);
        Told.wrongStreet("house 23 sees 23 to 23 up 23 for 24 spite 9;deed ^24 at 24");
        Told.wrongStreet("house 23 sees 23 to 23 up 23 for 24 spite 9;deed 23 at ^24");
        Check.sentence("N of to: not below that of sees.)");
        Told.rightStreet("house 1 sees 7 to 7 up 1 for 1");
        Told.rightStreet("house 1 sees 7 to 8 up 1 for 1");
        Told.wrongStreet("house 1 sees 7 to ^6 up 1 for 1");
        // It is told of each HOUSE anew.
        Told.rightStreet("house 1 sees 7 to 7 up 1 for 1;house 1 sees 0 to 0 up 1 for 1");
    }

    private static void toldByThen() {
        Check.sentence("D: a DEED, H: a HOUSE that there is by then;");
        Told.rightStreet(DEED + ";deed 1 at 1 hangs 0");
        Told.wrongStreet("deed 1 at 1 hangs ^0;" + DEED);
        Told.rightStreet("deed 1 at 1 hangs 1", DEED + ";" + DEED);
        Told.wrongStreet("deed 1 at 1 hangs ^2", DEED + ";" + DEED);
        Told.rightStreet(HOUSE + ";away 0");
        Told.wrongStreet("away ^0;" + HOUSE);
        Told.wrongStreet(HOUSE + ";away ^1");
        Told.wrongStreet(HOUSE + ";away ^1;" + HOUSE);
        Told.rightStreet("away 1;away 0", HOUSE + ";" + HOUSE);
        Told.wrongStreet("away ^2", HOUSE + ";" + HOUSE);
        Check.due("the last of 8", Told.rightStreet("away 7", Told.lines(HOUSE, 8)).count(7), 128);
        Told.wrongStreet("away ^8", Told.lines(HOUSE, 8));
        AllSawIt x = Told.rightStreet(HOUSE);
        x.lodger(0);
        Check.tell(x, "away 1");
        Check.due("a LODGER is there by then", x.street(), 2);
        Check.due("it is AWAY", x.count(7), 2);
    }

    private static void digits() {
        Check.sentence("Numbers are of 1 to 3 digits.");
        String[] ahead = {HOUSE + ";" + DEED};
        for (String line : new String[] {"house 1 sees 2 to 3 up 4 for 5 spite 6", "deed 1 at 2 hangs 0", "mists 3", "away 0"}) {
            String[] things = line.split(" ");
            for (int n = 1; n < things.length; n += 2) {
                String was = things[n];
                things[n] = "0" + was;
                Told.rightStreet(String.join(" ", things), ahead);
                things[n] = "00" + was;
                Told.rightStreet(String.join(" ", things), ahead);
                things[n] = "^000" + was;
                Told.wrongStreet(String.join(" ", things), ahead);
                things[n] = "^999999999999999999999" + was;
                Told.wrongStreet(String.join(" ", things), ahead);
                // As an int that goes round, this would be 0.
                things[n] = "^4294967296";
                Told.wrongStreet(String.join(" ", things), ahead);
                things[n] = was;
            }
        }
        Check.due("three digits are a number", Told.rightStreet("mists 007").count(6), 7);
        Check.due("23 of three digits", Told.rightStreet("deed 023 at 000").deed(0, 0), 23);
    }

    private static void words() {
        Check.sentence("Words are as long as a to z go on");
        Check.due("a word ends at a digit", Told.rightStreet("mists3").count(6), 3);
        Check.due("a number ends at a letter",
                Told.rightStreet("house1sees2to3up4for5spite6;deed7at8;mists9;away0").count(6), 9);
        Told.wrongStreet("^mistsa 3");
        Told.wrongStreet("^mistsz 3");
        Told.wrongStreet("^amists 3");
        Told.wrongStreet("^zmists 3");
        // The signs beside a and z are no part of a word, and stand nowhere.
        Told.wrongStreet("mists^` 3");
        Told.wrongStreet("mists^{ 3");
        Told.wrongStreet("^`mists 3");
        Told.wrongStreet("mists^A 3");
        Told.wrongStreet("mists^Z 3");
        Told.wrongStreet("^Mists 3");
        Told.wrongStreet("mists^\u00e9 3");
        // The signs beside 0 and 9 are no part of a number.
        Told.wrongStreet("mists 3^/");
        Told.wrongStreet("mists 3^:");
        Told.wrongStreet("mists ^/3");
        Told.wrongStreet("mists ^:");
        Told.wrongStreet("mists 3^\u00b2");
        Told.wrongStreet("mists^;");
        Told.wrongStreet("^mist s 3");
        Told.wrongStreet("house 1 ^seesto 1");
    }

    private static void blanks() {
        Check.sentence("between all there may be blanks (32), also ahead and behind.");
        Told.rightStreet("  house  1   sees 2 to 3 up 4 for 5  spite 6 ;   deed 7 at 8 ; mists 9;away 0   ");
        Told.rightStreet(" ".repeat(393) + "mists 1");
        Told.rightStreet("mists 1" + " ".repeat(393));
        Told.rightStreet("mists" + " ".repeat(394) + "1");
        for (char other = 0; other < 256; other++) {
            boolean letter = other >= 'a' && other <= 'z';
            boolean digit = other >= '0' && other <= '9';
            if (other == ' ' || other == '0') {
                Told.rightStreet("mists" + other + "1");
            } else if (other != '^') {
                Told.wrongStreet(letter ? "^mists" + other + "1" : "mists^" + other + "1");
                Told.wrongStreet("^" + other + "mists 1");
                Told.wrongStreet(digit ? "mists ^1" + other : other == ';' ? "mists 1;^" : "mists 1^" + other);
            }
        }
        Check.sentence("A text that is empty, or blanks alone, has no LINE.");
        for (String text : new String[] {"", " ", " ".repeat(399), " ".repeat(400)}) {
            AllSawIt x = Told.rightStreet(text, HOUSE);
            Check.due("it is a text", x.count(2), 2);
            Check.due("nothing is told", x.count(0) + x.count(1) + x.count(6) + x.count(7), 1);
        }
        Told.wrongStreet("  ^;  ");
    }

    private static void firstWrongByte() {
        Check.sentence("The first wrong byte: the begin of the first thing that cannot stand there (a number of more "
                + "digits, or out of its bounds, or that tells none that can be; a word that is none;");
        Told.wrongStreet("mists   ^0001");
        Told.wrongStreet("mists   ^10");
        Told.wrongStreet("mists   ^999");
        Told.wrongStreet("away   ^0");
        Told.wrongStreet("  ^mist 3");
        Told.wrongStreet("house 1   ^site 3");
        Told.wrongStreet("mists ^10;nothing 3;;");
        Told.wrongStreet(Told.lines("mists 1", 5) + ";^q");
        Told.wrongStreet(" ".repeat(399) + "^q");
        Check.sentence("of a LINE, a HOUSE, a DEED too many, the first word)");
        Told.wrongStreet(Told.lines("mists 1", 14) + ";   ^away 9");
        Told.wrongStreet(Told.lines("mists 1", 14) + ";^nothing");
        Told.wrongStreet(Told.lines(HOUSE, 8) + ";  ^house 99");
        Told.wrongStreet(Told.lines(DEED, 10) + ";  ^deed 99");
        // A wrong LINE ahead of the one too many is found first.
        Told.wrongStreet(Told.lines("mists 1", 13) + ";mists ^10;mists 1");
        Check.sentence("or the text's length, if more must come.");
        Told.wrongStreet("mists^");
        Told.wrongStreet("mists   ^");
        Told.wrongStreet("house 1 sees 1 to 1 up 1 for^");
        Told.wrongStreet("mists" + " ".repeat(395) + "^");
        Told.wrongStreet("mists 1;" + " ".repeat(392) + "^");
        Told.wrongStreet(HOUSE + ";^");
    }

    private static void nothingStays() {
        Check.sentence("Of a wrong text nothing stays.");
        String all = "house 5 sees 5 to 6 up 7 for 8 spite 9;deed 3 at 3;mists 8;away 0;away 1;";
        Told.wrongStreet(all + "^", HOUSE + ";mists 2", "deed 9 at 9");
        Told.wrongStreet(all + "deed 1 at ^24", HOUSE + ";mists 2", "deed 9 at 9");
        // The next right text begins where the wrong one had begun.
        AllSawIt x = Told.rightStreet(HOUSE + ";mists 2");
        Check.tell(x, all + "?");
        Check.refused("a wrong text", IllegalArgumentException.class, x::street);
        Check.tell(x, "house 6 sees 6 to 6 up 6 for 6;deed 4 at 4");
        Check.due("texts", x.street(), 2);
        Check.due("HOUSES", x.count(0), 2);
        Check.due("its PLACE", x.house(1, 0), 6);
        Check.due("its SPITE", x.house(1, 5), 0);
        Check.due("it is not AWAY", x.count(7), 0);
        Check.due("DEEDS", x.count(1), 1);
        Check.due("its HOUR", x.deed(0, 1), 4);
        Check.due("MISTS", x.count(6), 2);
    }

    private static void streetCall() {
        Check.promise(4, "Uses the TAPE up: a text of THE STREET: how many there are.");
        AllSawIt x = Told.rightStreet("mists 1");
        Check.due("the TAPE is used up: an empty text", x.street(), 2);
        Check.due("MISTS as told ahead", x.count(6), 1);
        Check.promise(4, "IllegalArgumentException: it is wrong; UnsupportedOperationException: there are 12.");
        Told.wrongStreet("mists ^");
        Class<IllegalArgumentException> wrong = IllegalArgumentException.class;
        Refusal.usingUp("a wrong 13th text", wrong, () -> twelveAndA("mists 44"), AllSawIt::street, 6);
        Refusal.usingUp("a right 13th text", UnsupportedOperationException.class, () -> twelveAndA("mists 4"),
                AllSawIt::street, -1);
        Told.rightStreet("mists 4", "", "", "", "", "", "", "", "", "", "", "");
    }
}
