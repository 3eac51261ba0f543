/** Promises 1 to 6: a new object, the tape, the texts of the street and of the law, the first wrong byte. */
public final class TextsTest {
    private static final String HOUSE = "house 1 sees 1 to 1 up 1 for 1";

    private TextsTest() {
    }

    public static void main(String[] args) {
        newObject();
        feed();
        end();
        street();
        streetFaults();
        streetBounds();
        law();
        lawFaults();
        lawMeans();
        fault();
        Check.end();
    }

    private static void newObject() {
        Check.part("promise 1");
        AllSawIt x = new AllSawIt();
        Check.due("NONE", AllSawIt.NONE, -1);
        for (int what = 0; what <= 12; what++) {
            Check.due("count " + what, x.count(what), what == 3 ? -1 : 0);
        }
        Check.due("seed at first", x.seed(7), 1);
        Check.due("best without houses", x.best(), -1);
        Check.due("holds without houses", x.holds(), -1);
        Check.due("open without houses", x.open(3, false), 0);
        Check.due("dark without houses", x.open(3, true), (1 << 24) - 1);
        Check.due("clear without houses", x.clear(3, 3), -1);
        Check.due("mirrors without houses", x.mirrors(3, 3), 0);
        Check.due("unseen without houses", x.unseen(3), 24);
        Check.due("thief without houses", x.thief(0, 23, 3), 0);
        Check.due("eyes without houses", x.eyes(3), 0);
        Check.due("alone without houses", x.alone(3, -1), 0);
        Check.due("twins without houses", x.twins(), 0);
        Check.due("witnesses without houses", x.witnesses(3, 3), 0);
        Check.due("wake without houses", x.wake(3, 3), 0);
        Check.due("later without deeds", x.later(0), 0);
        Check.due("undo", x.undo(), false);
        Check.due("back", x.back(), false);
    }

    private static void feed() {
        Check.part("promise 2");
        AllSawIt x = new AllSawIt();
        for (int n = 1; n <= 20; n++) {
            Check.due("feed " + n, x.feed(0x20202020, 0x20202020, 0x20202020, 0x20202020, 0x20202020), 20 * n);
        }
        Check.due("feed beyond 400", x.feed(0, 0, 0, 0, 0), -1);
        Check.due("street of 400 blanks", x.street(), 1);
        Check.due("feed after it is used up", x.feed(0, 0, 0, 0, 0), 20);
        Check.due("end", x.end(0), true);
        for (int n = 1; n <= 19; n++) {
            x.feed(0, 0, 0, 0, 0);
        }
        Check.due("end at 381", x.end(381), false);
        Check.due("end at 361", x.end(361), true);
        Check.due("feed of 381", x.feed(0, 0, 0, 0, 0), 381);
        Check.due("feed beyond", x.feed(0, 0, 0, 0, 0), -1);
        // The highest byte comes first, and the five numbers in their order.
        AllSawIt y = new AllSawIt();
        Check.due("feed of a text", y.feed(0x6d697374, 0x73202020, 0x20202020, 0x20202020, 0x20202039), 20);
        Check.due("street", y.street(), 1);
        Check.due("mists", y.count(6), 9);
    }

    private static void end() {
        Check.part("promise 3");
        AllSawIt x = new AllSawIt();
        Check.due("end(0) of none", x.end(0), true);
        Check.due("end(1) of none", x.end(1), false);
        Check.due("end(-1)", x.end(-1), false);
        Check.due("end(least)", x.end(Integer.MIN_VALUE), false);
        x.feed(0x6d697374, 0x73203120, 0x20202020, 0x20202020, 0x20202039);
        Check.due("end(21)", x.end(21), false);
        Check.due("end(20)", x.end(20), true);
        Check.due("end(7)", x.end(7), true);
        Check.due("end(8) behind it", x.end(8), false);
        Check.due("feed behind 7", x.feed(0x20202020, 0x20202020, 0x20202020, 0x20202020, 0x20202020), 27);
        Check.due("street", x.street(), 1);
        Check.due("mists", x.count(6), 1);
        Check.due("end(1) after it is used up", x.end(1), false);
    }

    private static void street() {
        Check.part("promise 4");
        AllSawIt x = Check.street("house 2 sees 0 to 5 up 6 for 12;house 4 sees 3 to 9 up 8 for 10 spite 3; deed 4 at 9;"
                + " deed 5 at 9 hangs 0 ;mists 7;away 1");
        int[] first = {2, 0, 5, 6, 12, 0, 0, 0};
        int[] second = {4, 3, 9, 8, 10, 3, 0, 1};
        for (int what = 0; what < first.length; what++) {
            Check.due("house 0, " + what, x.house(0, what), first[what]);
            Check.due("house 1, " + what, x.house(1, what), second[what]);
        }
        int[] deed = {5, 9, 0, 0, 0, 0};
        for (int what = 0; what < deed.length; what++) {
            Check.due("deed 1, " + what, x.deed(1, what), deed[what]);
        }
        Check.due("mists", x.count(6), 7);
        Check.due("fog", x.count(5), 0);
        Check.due("away", x.count(7), 2);
        // Texts come one behind another: numbers go on, and what is told ahead may be named.
        Check.tell(x, "house23sees0to23up0for24;deed0at0hangs1;away2;away 0;mists 0");
        Check.due("a second text, glued", x.street(), 2);
        Check.due("houses", x.count(0), 3);
        Check.due("deeds", x.count(1), 3);
        Check.due("away", x.count(7), 7);
        Check.due("mists told anew", x.count(6), 0);
        Check.tell(x, "");
        Check.due("an empty text counts", x.street(), 3);
        Check.tell(x, "    ");
        Check.due("blanks count", x.street(), 4);
        for (int n = 5; n <= 12; n++) {
            Check.tell(x, "mists 3");
            Check.due("text " + n, x.street(), n);
        }
        Check.tell(x, "mists 4");
        Check.refused("a 13th text", UnsupportedOperationException.class, x::street);
        Check.due("the 13th is not told", x.count(6), 3);
        Check.due("the 13th used the tape up", x.end(1), false);
        Check.due("the 13th was read, and is right", x.fault(), -1);
        Check.tell(x, "mists 44");
        Check.refused("a wrong 13th text", IllegalArgumentException.class, x::street);
        Check.due("the fault of it", x.fault(), 6);
        Check.due("texts", x.count(2), 12);
    }

    private static void wrongStreet(String text, int at) {
        AllSawIt x = Check.street("mists 2");
        x.seed(5);
        Check.tell(x, text);
        Check.refused("street of " + text, IllegalArgumentException.class, x::street);
        Check.due("fault of " + text, x.fault(), at);
        Check.due("the tape after " + text, x.end(1), false);
        Check.due("houses after " + text, x.count(0), 0);
        Check.due("deeds after " + text, x.count(1), 0);
        Check.due("mists after " + text, x.count(6), 2);
        Check.due("texts after " + text, x.count(2), 1);
    }

    private static void rightStreet(String text) {
        AllSawIt x = new AllSawIt();
        Check.tell(x, text);
        try {
            Check.due("street of " + text, x.street(), 1);
        } catch (IllegalArgumentException e) {
            Check.note("street of " + text + " is refused at " + x.fault());
        }
        Check.due("fault of " + text, x.fault(), -1);
    }

    private static void streetFaults() {
        Check.part("promise 4, wrong texts");
        wrongStreet("house", 5);
        wrongStreet("house  ", 7);
        wrongStreet("house 24", 6);
        wrongStreet("house 1234 sees", 6);
        wrongStreet("house 0001", 6);
        wrongStreet("house x", 6);
        wrongStreet("house 1 see 1 to 1", 8);
        wrongStreet("house 1 sees 24", 13);
        wrongStreet("house 1 sees 5 to 4", 18);
        wrongStreet("house 1 sees 5 to 24", 18);
        wrongStreet("house 1 sees 5 5", 15);
        wrongStreet("house 1 sees 1 to 1 up 24", 23);
        wrongStreet("house 1 sees 1 to 1 up 1", 24);
        wrongStreet("house 1 sees 1 to 1 up 1 for 25", 29);
        wrongStreet("house 1 sees 1 to 1 up 1 for", 28);
        wrongStreet(HOUSE + " spite 10", 37);
        wrongStreet(HOUSE + " spite", 36);
        wrongStreet(HOUSE + " spit 1", 31);
        wrongStreet(HOUSE + " spite 1 spite 1", 39);
        wrongStreet(HOUSE + ";", 31);
        wrongStreet(HOUSE + "  ; ", 34);
        wrongStreet("mists 1;;mists 1", 8);
        wrongStreet(";mists 1", 0);
        wrongStreet(" ;", 1);
        wrongStreet("mists 10", 6);
        wrongStreet("mists -1", 6);
        wrongStreet("mists 1 mists 1", 8);
        wrongStreet("mists 1x", 7);
        wrongStreet("mistsx 1", 0);
        wrongStreet("mistsz 1", 0);
        wrongStreet("mists 1az", 7);
        wrongStreet("fists 1", 0);
        wrongStreet("Mists 1", 0);
        wrongStreet("miSts 1", 0);
        wrongStreet("mists\t1", 5);
        wrongStreet("mists 1\0", 7);
        wrongStreet("\u00e9", 0);
        wrongStreet("mists", 5);
        wrongStreet("away", 4);
        wrongStreet("away 0", 5);
        wrongStreet(HOUSE + ";away 1", 36);
        wrongStreet("away 0;" + HOUSE, 5);
        wrongStreet("deed 24 at 1", 5);
        wrongStreet("deed 1 at 24", 10);
        wrongStreet("deed 1 at", 9);
        wrongStreet("deed 1 at 1 hangs 0", 18);
        wrongStreet("deed 1 at 1;deed 1 at 1 hangs 1", 30);
        wrongStreet("deed 1 at 1;deed 1 at 1 hangs", 29);
        wrongStreet("see if up", 0);
    }

    private static void streetBounds() {
        Check.part("promise 4, bounds");
        rightStreet("  mists  9  ");
        rightStreet("mists 009");
        rightStreet("house 023 sees 0 to 23 up 023 for 024 spite 009");
        rightStreet("house 0 sees 23 to 23 up 0 for 0 spite 0");
        rightStreet("deed 23 at 23;deed 0 at 0 hangs 0;deed 1 at 1 hangs 000");
        String fourteen = "mists 1" + ";mists 1".repeat(13);
        rightStreet(fourteen);
        wrongStreet(fourteen + ";", 112);
        wrongStreet(fourteen + ";  mists 1", 114);
        wrongStreet(fourteen + ";  77", 114);
        String eight = HOUSE + (";" + HOUSE).repeat(7);
        rightStreet(eight);
        wrongStreet(eight + "; house", 249);
        String ten = "deed 1 at 1" + ";deed 1 at 1".repeat(9);
        rightStreet(ten);
        wrongStreet(ten + ";deed 99", 120);
        AllSawIt x = Check.street(eight);
        Check.tell(x, "mists 1;" + HOUSE);
        Check.refused("a 9th house in a later text", IllegalArgumentException.class, x::street);
        Check.due("its first word", x.fault(), 8);
        Check.due("nothing of it stays", x.count(6), 0);
    }

    private static void law() {
        Check.part("promise 5");
        AllSawIt x = Check.street("house 5 sees 3 to 7 up 8 for 4;house 6 sees 0 to 23 up 0 for 24;away 1");
        Check.due("without a text", x.witnesses(5, 8), 1);
        Check.due("no lines", x.count(3), -1);
        Check.tell(x, "see");
        Check.due("see", x.law(), 1);
        Check.due("all see", x.witnesses(23, 23), 3);
        Check.tell(x, "see if up;blind if away; blind if place > 5");
        Check.due("three lines", x.law(), 3);
        Check.due("count", x.count(3), 3);
        Check.due("up", x.witnesses(0, 8), 1);
        Check.due("place above 5", x.witnesses(6, 8), 0);
        Check.tell(x, "see if");
        Check.refused("a wrong law", IllegalArgumentException.class, x::law);
        Check.due("the law stays", x.count(3), 3);
        Check.due("it still holds", x.witnesses(0, 8), 1);
        Check.due("the tape is used up", x.end(1), false);
        Check.tell(x, "blind");
        Check.due("blind", x.law(), 1);
        Check.due("none see", x.witnesses(5, 8), 0);
        Check.tell(x, "  ");
        Check.due("a law without lines", x.law(), 0);
        Check.due("count", x.count(3), 0);
        Check.due("nobody sees by it", x.witnesses(5, 8), 0);
        Check.tell(x, "see;".repeat(11) + "see");
        Check.due("twelve lines", x.law(), 12);
    }

    private static void wrongLaw(String text, int at) {
        AllSawIt x = new AllSawIt();
        Check.tell(x, text);
        Check.refused("law of " + text, IllegalArgumentException.class, x::law);
        Check.due("fault of " + text, x.fault(), at);
        Check.due("lines after " + text, x.count(3), -1);
        Check.due("the tape after " + text, x.end(1), false);
    }

    private static void lawFaults() {
        Check.part("promise 5, wrong texts");
        wrongLaw("see 1", 4);
        wrongLaw("see if", 6);
        wrongLaw("see if ", 7);
        wrongLaw("seeif up", 0);
        wrongLaw("see if upaway", 7);
        wrongLaw("see if up up", 10);
        wrongLaw("see if up and", 13);
        wrongLaw("see if up or ;", 13);
        wrongLaw("see if not", 10);
        wrongLaw("see if (up", 10);
        wrongLaw("see if (up;see", 10);
        wrongLaw("see if up)", 9);
        wrongLaw("see if ()", 8);
        wrongLaw("see if (hour) < 3", 12);
        wrongLaw("see if hour", 11);
        wrongLaw("see if hour up", 12);
        wrongLaw("see if hour <", 13);
        wrongLaw("see if hour = 3", 12);
        wrongLaw("see if hour << 3", 13);
        wrongLaw("see if hour < 3 < 4", 16);
        wrongLaw("see if hour + < 3", 14);
        wrongLaw("see if + hour < 3", 7);
        wrongLaw("see if hour < 1000", 14);
        wrongLaw("see if 0001 < 2", 7);
        wrongLaw("see if hour < up", 14);
        wrongLaw("see if window < 3", 14);
        wrongLaw("see if spite < 3", 7);
        wrongLaw("see;", 4);
        wrongLaw(";see", 0);
        wrongLaw("mists 1", 0);
        wrongLaw("see;".repeat(12) + "see", 48);
        wrongLaw("see;".repeat(12), 48);
        wrongLaw("see if not not not not not not not up", 31);
        wrongLaw("see if ((((((( up", 13);
        wrongLaw("see if (not (not (not (up", 22);
        wrongLaw("see if up and ((((((up)))))) or not(((((not up", 40);
    }

    private static boolean holds(String cond, int place, int hour) {
        AllSawIt x = Check.street("house 3 sees 2 to 6 up 20 for 6;house 9 sees 0 to 5 up 1 for 2;mists 9;away 0",
                "see if " + cond);
        x.seed(3);
        x.days(2);
        return x.sees(0, place, hour);
    }

    private static void lawMeans() {
        Check.part("promise 5, what it means");
        Check.yes("six deep", holds("not not not not not not 1 < 2", 0, 0));
        Check.yes("six deep", holds("((((((1 < 2))))))", 0, 0));
        Check.yes("six deep, twice", holds("((((((1 < 2)))))) and ((((((1 < 2))))))", 0, 0));
        Check.yes("and binds closer", holds("1 < 2 or 1 < 2 and 2 < 1", 0, 0));
        Check.yes("and binds closer", holds("2 < 1 and 1 < 2 or 1 < 2", 0, 0));
        Check.due("brackets", holds("(1 < 2 or 1 < 2) and 2 < 1", 0, 0), false);
        Check.yes("not binds closest", holds("not 2 < 1 and 1 < 2", 0, 0));
        Check.due("not binds closest", holds("not 1 < 2 or 2 < 1", 0, 0), false);
        Check.due("equal is not less", holds("7 < 7", 0, 0), false);
        Check.due("equal is not more", holds("7 > 7", 0, 0), false);
        Check.yes("sums", holds("1+2+3 > 5 and 1+1 < 1+1+1", 0, 0));
        Check.yes("a sum begins anew", holds("900 + 99 < 1 or 1 < 2", 0, 0));
        Check.yes("house", holds("house < 1", 0, 0));
        Check.yes("place", holds("place > 13 and place < 15", 14, 2));
        Check.yes("hour", holds("hour > 1 and hour < 3", 14, 2));
        Check.yes("apart", holds("apart > 10 and apart < 12", 14, 2));
        Check.yes("apart to the left", holds("apart > 2 and apart < 4", 0, 2));
        Check.yes("day", holds("day > 1 and day < 3", 0, 0));
        Check.yes("away", holds("away", 0, 0));
        Check.yes("up over midnight", holds("up", 0, 1));
        Check.due("up no more", holds("up", 0, 2), false);
        Check.yes("up from", holds("up", 0, 20));
        Check.due("not up yet", holds("up", 0, 19), false);
        Check.yes("window", holds("window", 6, 0));
        Check.due("beside the window", holds("window", 7, 0), false);
        AllSawIt x = Check.street("house 3 sees 2 to 6 up 20 for 6;mists 9", "see if fog > 4");
        x.seed(3);
        for (int i = 0; i < 12; i++) {
            x.days(1);
            Check.due("by fog " + x.count(5), x.sees(0, 0, 0), x.count(5) > 4);
        }
    }

    private static void fault() {
        Check.part("promise 6");
        AllSawIt x = new AllSawIt();
        Check.due("ahead of any", x.fault(), -1);
        Check.tell(x, "mists");
        Check.refused("street", IllegalArgumentException.class, x::street);
        Check.due("wrong street", x.fault(), 5);
        x.image();
        Check.tell(x, "see if away or");
        Check.refused("law", IllegalArgumentException.class, x::law);
        Check.due("wrong law", x.fault(), 14);
        Check.rows(x, 1, 2);
        Check.refused("denied", IllegalArgumentException.class, () -> x.denied(false));
        Check.due("rows are no text", x.fault(), 14);
        Check.due("back", x.back(), true);
        Check.due("not by going back", x.fault(), 14);
        x.days(1);
        x.undo();
        Check.due("not by undoing", x.fault(), 14);
        Check.tell(x, "see");
        x.law();
        Check.due("a right law", x.fault(), -1);
        Check.tell(x, "?");
        Check.refused("street", IllegalArgumentException.class, x::street);
        Check.due("wrong street", x.fault(), 0);
        Check.tell(x, "");
        x.street();
        Check.due("a right street", x.fault(), -1);
    }
}
